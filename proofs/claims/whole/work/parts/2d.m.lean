-- BoundProofs$Rows determinant (III)I
noncomputable def s_X7_determinant (c0 : Nat) (a1 : Int32) (a2 : Int32) (a3 : Int32) (h : Hp) : Option (Int32) :=
  if a1 < 0 then (some (0 : Int32))
  else (if a1 < (h.1 c0 4) then (if a2 < 0 then (some (0 : Int32))
  else (if a2 < (h.1 c0 4) then (if a3 < 0 then (some (0 : Int32))
  else (if a3 < (h.1 c0 4) then (lt (a1 * (3 : Int32)) fun v5_1 =>
  lt (a2 * (3 : Int32)) fun v6_2 =>
  lt (a3 * (3 : Int32)) fun v7_3 =>
  ldI h (c0 + 1) 36 v5_1 fun x4 =>
  ldI h (c0 + 1) 36 (v6_2 + (1 : Int32)) fun x5 =>
  ldI h (c0 + 1) 36 (v7_3 + (2 : Int32)) fun x6 =>
  ldI h (c0 + 1) 36 (v6_2 + (2 : Int32)) fun x7 =>
  ldI h (c0 + 1) 36 (v7_3 + (1 : Int32)) fun x8 =>
  ldI h (c0 + 1) 36 (v5_1 + (1 : Int32)) fun x9 =>
  ldI h (c0 + 1) 36 (v6_2 + (2 : Int32)) fun x10 =>
  ldI h (c0 + 1) 36 v7_3 fun x11 =>
  ldI h (c0 + 1) 36 v6_2 fun x12 =>
  ldI h (c0 + 1) 36 (v7_3 + (2 : Int32)) fun x13 =>
  ldI h (c0 + 1) 36 (v5_1 + (2 : Int32)) fun x14 =>
  ldI h (c0 + 1) 36 v6_2 fun x15 =>
  ldI h (c0 + 1) 36 (v7_3 + (1 : Int32)) fun x16 =>
  ldI h (c0 + 1) 36 (v6_2 + (1 : Int32)) fun x17 =>
  ldI h (c0 + 1) 36 v7_3 fun x18 =>
  some (((x4 * ((x5 * x6) - (x7 * x8))) + (x9 * ((x10 * x11) - (x12 * x13)))) + (x14 * ((x15 * x16) - (x17 * x18)))))
  else (some (0 : Int32))))
  else (some (0 : Int32))))
  else (some (0 : Int32)))
set_option maxRecDepth 100000 in
set_option maxHeartbeats 4000000 in
theorem o_X7_determinant {K : gK} (S : Cx K RX7 cX7_determinant 8 0 0) {c0 : Nat} (k0 : kd c0 (10 + 7, 0)) (a1 : Int32) (a2 : Int32) (a3 : Int32) (h : Hp) {o : Int32} (hyp : s_X7_determinant c0 a1 a2 a3 h = some o) (F : Rt K (some .int) (some (.int o)) h) : Go K 0 [(0, .ref (ad K c0)), (1, .int a1), (2, .int a2), (3, .int a3)] [] h := by
  unfold s_X7_determinant at hyp
  refine g_iload_n (pc := 0) 1 S dX7_determinant_0 rfl ?_
  refine g_if_lt (pc := 1) (tgt := 36) S dX7_determinant_1 (by decide) hyp (fun hyp => ?_) (fun hyp => ?_)
  · refine g_iconst (pc := 36) (v := (0 : Int32)) S dX7_determinant_36 (by decide) ?_
    have hyp := Option.some.inj hyp
    subst hyp
    exact g_iret (pc := 37) S F dX7_determinant_37
  · refine g_iload_n (pc := 4) 1 S dX7_determinant_4 rfl ?_
    refine g_aload_n (pc := 5) 0 S dX7_determinant_5 rfl ?_
    refine g_getI (pc := 6) S dX7_determinant_6 fl_X7_26 k0 ?_
    refine g_icmp_ge (pc := 9) (tgt := 36) S dX7_determinant_9 (by decide) hyp (fun hyp => ?_) (fun hyp => ?_)
    · refine g_iload_n (pc := 12) 2 S dX7_determinant_12 rfl ?_
      refine g_if_lt (pc := 13) (tgt := 36) S dX7_determinant_13 (by decide) hyp (fun hyp => ?_) (fun hyp => ?_)
      · refine g_iconst (pc := 36) (v := (0 : Int32)) S dX7_determinant_36 (by decide) ?_
        have hyp := Option.some.inj hyp
        subst hyp
        exact g_iret (pc := 37) S F dX7_determinant_37
      · refine g_iload_n (pc := 16) 2 S dX7_determinant_16 rfl ?_
        refine g_aload_n (pc := 17) 0 S dX7_determinant_17 rfl ?_
        refine g_getI (pc := 18) S dX7_determinant_18 fl_X7_26 k0 ?_
        refine g_icmp_ge (pc := 21) (tgt := 36) S dX7_determinant_21 (by decide) hyp (fun hyp => ?_) (fun hyp => ?_)
        · refine g_iload_n (pc := 24) 3 S dX7_determinant_24 rfl ?_
          refine g_if_lt (pc := 25) (tgt := 36) S dX7_determinant_25 (by decide) hyp (fun hyp => ?_) (fun hyp => ?_)
          · refine g_iconst (pc := 36) (v := (0 : Int32)) S dX7_determinant_36 (by decide) ?_
            have hyp := Option.some.inj hyp
            subst hyp
            exact g_iret (pc := 37) S F dX7_determinant_37
          · refine g_iload_n (pc := 28) 3 S dX7_determinant_28 rfl ?_
            refine g_aload_n (pc := 29) 0 S dX7_determinant_29 rfl ?_
            refine g_getI (pc := 30) S dX7_determinant_30 fl_X7_26 k0 ?_
            refine g_icmp_lt (pc := 33) (tgt := 38) S dX7_determinant_33 (by decide) hyp (fun hyp => ?_) (fun hyp => ?_)
            · refine g_aload_n (pc := 38) 0 S dX7_determinant_38 rfl ?_
              refine g_getR (pc := 39) S dX7_determinant_39 fl_X7_9 k0 ?_
              refine g_astore (pc := 42) (lv' := [(4, .ref (ad K (c0 + 1))), (0, .ref (ad K c0)), (1, .int a1), (2, .int a2), (3, .int a3)]) S dX7_determinant_42 (by decide) rfl ?_
              refine g_iload_n (pc := 44) 2 S dX7_determinant_44 rfl ?_
              refine g_iconst (pc := 45) (v := (3 : Int32)) S dX7_determinant_45 (by decide) ?_
              refine g_imul (pc := 46) S dX7_determinant_46 ?_
              refine g_lti (C := fun v5_1 => Go K 47 [(4, .ref (ad K (c0 + 1))), (0, .ref (ad K c0)), (1, .int a1), (2, .int a2), (3, .int a3)] [.int v5_1] h) hyp (fun v5_1 hyp => ?_)
              refine g_istore (pc := 47) (lv' := [(5, .int v5_1), (4, .ref (ad K (c0 + 1))), (0, .ref (ad K c0)), (1, .int a1), (2, .int a2), (3, .int a3)]) S dX7_determinant_47 (by decide) rfl ?_
              refine g_iload_n (pc := 49) 4 S dX7_determinant_49 rfl ?_
              refine g_iconst (pc := 50) (v := (3 : Int32)) S dX7_determinant_50 (by decide) ?_
              refine g_imul (pc := 51) S dX7_determinant_51 ?_
              refine g_lti (C := fun v6_2 => Go K 52 [(5, .int v5_1), (4, .ref (ad K (c0 + 1))), (0, .ref (ad K c0)), (1, .int a1), (2, .int a2), (3, .int a3)] [.int v6_2] h) hyp (fun v6_2 hyp => ?_)
              refine g_istore (pc := 52) (lv' := [(6, .int v6_2), (5, .int v5_1), (4, .ref (ad K (c0 + 1))), (0, .ref (ad K c0)), (1, .int a1), (2, .int a2), (3, .int a3)]) S dX7_determinant_52 (by decide) rfl ?_
              refine g_iload_n (pc := 54) 6 S dX7_determinant_54 rfl ?_
              refine g_iconst (pc := 55) (v := (3 : Int32)) S dX7_determinant_55 (by decide) ?_
              refine g_imul (pc := 56) S dX7_determinant_56 ?_
              refine g_lti (C := fun v7_3 => Go K 57 [(6, .int v6_2), (5, .int v5_1), (4, .ref (ad K (c0 + 1))), (0, .ref (ad K c0)), (1, .int a1), (2, .int a2), (3, .int a3)] [.int v7_3] h) hyp (fun v7_3 hyp => ?_)
              refine g_istore (pc := 57) (lv' := [(7, .int v7_3), (6, .int v6_2), (5, .int v5_1), (4, .ref (ad K (c0 + 1))), (0, .ref (ad K c0)), (1, .int a1), (2, .int a2), (3, .int a3)]) S dX7_determinant_57 (by decide) rfl ?_
              refine g_aload (pc := 59) 3 S dX7_determinant_59 rfl ?_
              refine g_iload (pc := 61) 2 S dX7_determinant_61 rfl ?_
              refine g_iald (pc := 63) S dX7_determinant_63 (kf_7_1 k0) hyp (fun x4 hyp => ?_)
              refine g_aload (pc := 64) 3 S dX7_determinant_64 rfl ?_
              refine g_iload (pc := 66) 1 S dX7_determinant_66 rfl ?_
              refine g_iconst (pc := 68) (v := (1 : Int32)) S dX7_determinant_68 (by decide) ?_
              refine g_iadd (pc := 69) S dX7_determinant_69 ?_
              refine g_iald (pc := 70) S dX7_determinant_70 (kf_7_1 k0) hyp (fun x5 hyp => ?_)
              refine g_aload (pc := 71) 3 S dX7_determinant_71 rfl ?_
              refine g_iload (pc := 73) 0 S dX7_determinant_73 rfl ?_
              refine g_iconst (pc := 75) (v := (2 : Int32)) S dX7_determinant_75 (by decide) ?_
              refine g_iadd (pc := 76) S dX7_determinant_76 ?_
              refine g_iald (pc := 77) S dX7_determinant_77 (kf_7_1 k0) hyp (fun x6 hyp => ?_)
              refine g_imul (pc := 78) S dX7_determinant_78 ?_
              refine g_aload (pc := 79) 3 S dX7_determinant_79 rfl ?_
              refine g_iload (pc := 81) 1 S dX7_determinant_81 rfl ?_
              refine g_iconst (pc := 83) (v := (2 : Int32)) S dX7_determinant_83 (by decide) ?_
              refine g_iadd (pc := 84) S dX7_determinant_84 ?_
              refine g_iald (pc := 85) S dX7_determinant_85 (kf_7_1 k0) hyp (fun x7 hyp => ?_)
              refine g_aload (pc := 86) 3 S dX7_determinant_86 rfl ?_
              refine g_iload (pc := 88) 0 S dX7_determinant_88 rfl ?_
              refine g_iconst (pc := 90) (v := (1 : Int32)) S dX7_determinant_90 (by decide) ?_
              refine g_iadd (pc := 91) S dX7_determinant_91 ?_
              refine g_iald (pc := 92) S dX7_determinant_92 (kf_7_1 k0) hyp (fun x8 hyp => ?_)
              refine g_imul (pc := 93) S dX7_determinant_93 ?_
              refine g_isub (pc := 94) S dX7_determinant_94 ?_
              refine g_imul (pc := 95) S dX7_determinant_95 ?_
              refine g_aload (pc := 96) 3 S dX7_determinant_96 rfl ?_
              refine g_iload (pc := 98) 2 S dX7_determinant_98 rfl ?_
              refine g_iconst (pc := 100) (v := (1 : Int32)) S dX7_determinant_100 (by decide) ?_
              refine g_iadd (pc := 101) S dX7_determinant_101 ?_
              refine g_iald (pc := 102) S dX7_determinant_102 (kf_7_1 k0) hyp (fun x9 hyp => ?_)
              refine g_aload (pc := 103) 3 S dX7_determinant_103 rfl ?_
              refine g_iload (pc := 105) 1 S dX7_determinant_105 rfl ?_
              refine g_iconst (pc := 107) (v := (2 : Int32)) S dX7_determinant_107 (by decide) ?_
              refine g_iadd (pc := 108) S dX7_determinant_108 ?_
              refine g_iald (pc := 109) S dX7_determinant_109 (kf_7_1 k0) hyp (fun x10 hyp => ?_)
              refine g_aload (pc := 110) 3 S dX7_determinant_110 rfl ?_
              refine g_iload (pc := 112) 0 S dX7_determinant_112 rfl ?_
              refine g_iald (pc := 114) S dX7_determinant_114 (kf_7_1 k0) hyp (fun x11 hyp => ?_)
              refine g_imul (pc := 115) S dX7_determinant_115 ?_
              refine g_aload (pc := 116) 3 S dX7_determinant_116 rfl ?_
              refine g_iload (pc := 118) 1 S dX7_determinant_118 rfl ?_
              refine g_iald (pc := 120) S dX7_determinant_120 (kf_7_1 k0) hyp (fun x12 hyp => ?_)
              refine g_aload (pc := 121) 3 S dX7_determinant_121 rfl ?_
              refine g_iload (pc := 123) 0 S dX7_determinant_123 rfl ?_
              refine g_iconst (pc := 125) (v := (2 : Int32)) S dX7_determinant_125 (by decide) ?_
              refine g_iadd (pc := 126) S dX7_determinant_126 ?_
              refine g_iald (pc := 127) S dX7_determinant_127 (kf_7_1 k0) hyp (fun x13 hyp => ?_)
              refine g_imul (pc := 128) S dX7_determinant_128 ?_
              refine g_isub (pc := 129) S dX7_determinant_129 ?_
              refine g_imul (pc := 130) S dX7_determinant_130 ?_
              refine g_iadd (pc := 131) S dX7_determinant_131 ?_
              refine g_aload (pc := 132) 3 S dX7_determinant_132 rfl ?_
              refine g_iload (pc := 134) 2 S dX7_determinant_134 rfl ?_
              refine g_iconst (pc := 136) (v := (2 : Int32)) S dX7_determinant_136 (by decide) ?_
              refine g_iadd (pc := 137) S dX7_determinant_137 ?_
              refine g_iald (pc := 138) S dX7_determinant_138 (kf_7_1 k0) hyp (fun x14 hyp => ?_)
              refine g_aload (pc := 139) 3 S dX7_determinant_139 rfl ?_
              refine g_iload (pc := 141) 1 S dX7_determinant_141 rfl ?_
              refine g_iald (pc := 143) S dX7_determinant_143 (kf_7_1 k0) hyp (fun x15 hyp => ?_)
              refine g_aload (pc := 144) 3 S dX7_determinant_144 rfl ?_
              refine g_iload (pc := 146) 0 S dX7_determinant_146 rfl ?_
              refine g_iconst (pc := 148) (v := (1 : Int32)) S dX7_determinant_148 (by decide) ?_
              refine g_iadd (pc := 149) S dX7_determinant_149 ?_
              refine g_iald (pc := 150) S dX7_determinant_150 (kf_7_1 k0) hyp (fun x16 hyp => ?_)
              refine g_imul (pc := 151) S dX7_determinant_151 ?_
              refine g_aload (pc := 152) 3 S dX7_determinant_152 rfl ?_
              refine g_iload (pc := 154) 1 S dX7_determinant_154 rfl ?_
              refine g_iconst (pc := 156) (v := (1 : Int32)) S dX7_determinant_156 (by decide) ?_
              refine g_iadd (pc := 157) S dX7_determinant_157 ?_
              refine g_iald (pc := 158) S dX7_determinant_158 (kf_7_1 k0) hyp (fun x17 hyp => ?_)
              refine g_aload (pc := 159) 3 S dX7_determinant_159 rfl ?_
              refine g_iload (pc := 161) 0 S dX7_determinant_161 rfl ?_
              refine g_iald (pc := 163) S dX7_determinant_163 (kf_7_1 k0) hyp (fun x18 hyp => ?_)
              refine g_imul (pc := 164) S dX7_determinant_164 ?_
              refine g_isub (pc := 165) S dX7_determinant_165 ?_
              refine g_imul (pc := 166) S dX7_determinant_166 ?_
              refine g_iadd (pc := 167) S dX7_determinant_167 ?_
              have hyp := Option.some.inj hyp
              subst hyp
              exact g_iret (pc := 168) S F dX7_determinant_168
            · refine g_iconst (pc := 36) (v := (0 : Int32)) S dX7_determinant_36 (by decide) ?_
              have hyp := Option.some.inj hyp
              subst hyp
              exact g_iret (pc := 37) S F dX7_determinant_37
        · refine g_iconst (pc := 36) (v := (0 : Int32)) S dX7_determinant_36 (by decide) ?_
          have hyp := Option.some.inj hyp
          subst hyp
          exact g_iret (pc := 37) S F dX7_determinant_37
    · refine g_iconst (pc := 36) (v := (0 : Int32)) S dX7_determinant_36 (by decide) ?_
      have hyp := Option.some.inj hyp
      subst hyp
      exact g_iret (pc := 37) S F dX7_determinant_37
theorem m_X7_determinant {l : Launch} {D : va_G} {cT : Nat → ClassId} {aD : Nat → Nat} {c0 : Nat} (k0 : kd c0 (10 + 7, 0)) (a1 : Int32) (a2 : Int32) (a3 : Int32) (h : Hp) {o : Int32} (hyp : s_X7_determinant c0 a1 a2 a3 h = some o) : Ok l D cT aD yX7_determinant cX7_determinant 8 (some .int) 0 0 [.ref (aD c0), .int a1, .int a2, .int a3] h (some (.int o)) h :=
  Ok.of (by decide +kernel) rfl (Nat.le_of_ble_eq_true rfl) (fun K e1 e2 e3 e4 S F => by subst e1; exact o_X7_determinant S k0 a1 a2 a3 h hyp F)
-- BoundProofs$Circuit dependThree (III)Z
noncomputable def s_X0_dependThree_l18 (c0 : Nat) (a1 : Int32) (a2 : Int32) (a3 : Int32) (a4 : Int32) (h : Hp) : Option ((Int32 × Hp) ⊕ ((Hp) ⊕ (Int32 × Hp))) :=
  if a4 < (3 : Int32) then ((s_X7_cross (c0 + 1) a1 a2 a4 h).bind fun y2 =>
  if y2 = 0 then (lt (a4 + (1 : Int32)) fun v4_3 =>
  some (.inl (v4_3, h)))
  else ((s_X7_cross (c0 + 1) a2 a3 a4 h).bind fun y4 =>
  (s_X7_cross (c0 + 1) a3 a1 a4 h).bind fun y5 =>
  (s_X7_cross (c0 + 1) a1 a2 a4 h).bind fun y6 =>
  (s_X0_setFactors c0 y4 y5 y6 (0 : Int32) h).bind fun y7 =>
  ckB y7.1 <|
  some (.inr (.inr (y7.1, y7.2)))))
  else (some (.inr (.inl h)))
noncomputable def s_X0_dependThree (c0 : Nat) (a1 : Int32) (a2 : Int32) (a3 : Int32) (h : Hp) : Option (Int32 × Hp) :=
  (s_X7_determinant (c0 + 1) a1 a2 a3 h).bind fun y1 =>
  if y1 = 0 then ((iter (fun s : Int32 × Hp => s_X0_dependThree_l18 c0 a1 a2 a3 s.1 s.2) FUEL ((0 : Int32), h)).bind (Sum.elim (fun t9 => some ((0 : Int32), t9))
  (fun t10 => some t10)))
  else (some ((0 : Int32), h))
set_option maxRecDepth 100000 in
set_option maxHeartbeats 4000000 in
theorem o_X0_dependThree_l18 {K : gK} (S : Cx K RX0 cX0_dependThree 5 1 31) {c0 : Nat} (k0 : kd c0 (10 + 0, 0)) (a1 : Int32) (a2 : Int32) (a3 : Int32) (a4 : Int32) (h : Hp) {o : (Int32 × Hp) ⊕ ((Hp) ⊕ (Int32 × Hp))} (hyp : s_X0_dependThree_l18 c0 a1 a2 a3 a4 h = some o) (hin : ∀ s', o = .inl s' → Go K 18 [(0, .ref (ad K c0)), (1, .int a1), (2, .int a2), (3, .int a3), (4, .int s'.1)] [] s'.2) (hex0 : ∀ s', o = .inr (.inl s') → Go K 83 [] [] s') (hret : ∀ x', o = .inr (.inr x') → Rt K (some .boolean) (some (.int x'.1)) x'.2) : Go K 18 [(0, .ref (ad K c0)), (1, .int a1), (2, .int a2), (3, .int a3), (4, .int a4)] [] h := by
  unfold s_X0_dependThree_l18 at hyp
  refine g_iload (pc := 18) 4 S dX0_dependThree_18 rfl ?_
  refine g_iconst (pc := 20) (v := (3 : Int32)) S dX0_dependThree_20 (by decide) ?_
  refine g_icmp_ge (pc := 21) (tgt := 83) S dX0_dependThree_21 (by decide) hyp (fun hyp => ?_) (fun hyp => ?_)
  · refine g_aload_n (pc := 24) 0 S dX0_dependThree_24 rfl ?_
    refine g_getR (pc := 25) S dX0_dependThree_25 fl_X0_12 k0 ?_
    refine g_iload_n (pc := 28) 1 S dX0_dependThree_28 rfl ?_
    refine g_iload_n (pc := 29) 2 S dX0_dependThree_29 rfl ?_
    refine g_iload (pc := 30) 4 S dX0_dependThree_30 rfl ?_
    refine g_bind hyp (fun y2 hy2 hyp => ?_)
    refine g_callV (pc := 32) (As := [.int a1, .int a2, .int a4]) (rest := []) S dX0_dependThree_32 (kf_0_1 k0) rfl tw_547 tw_548 tw_549 mw_X7_cross (m_X7_cross (kf_0_1 k0) a1 a2 a4 h hy2) rfl rfl (Nat.le_of_ble_eq_true rfl) (Nat.le_of_ble_eq_true rfl) (Nat.le_of_ble_eq_true rfl) ?_
    refine g_if_eq (pc := 35) (tgt := 77) S dX0_dependThree_35 (by decide) hyp (fun hyp => ?_) (fun hyp => ?_)
    · refine g_iinc (pc := 77) (v := (a4 + (1 : Int32))) (lv' := [(4, .int (a4 + (1 : Int32))), (0, .ref (ad K c0)), (1, .int a1), (2, .int a2), (3, .int a3)]) 4 S dX0_dependThree_77 rfl (by rfl) (by decide) rfl ?_
      refine g_lti (C := fun v4_3 => Go K (77 + 3) [(4, .int v4_3), (0, .ref (ad K c0)), (1, .int a1), (2, .int a2), (3, .int a3)] [] h) hyp (fun v4_3 hyp => ?_)
      refine g_goto (pc := 80) (tgt := 18) S dX0_dependThree_80 (by decide) ?_
      have hyp := Option.some.inj hyp
      subst hyp
      exact g_sub [1, 2, 3, 4, 0] rfl (hin (v4_3, h) rfl)
    · refine g_aload_n (pc := 38) 0 S dX0_dependThree_38 rfl ?_
      refine g_aload_n (pc := 39) 0 S dX0_dependThree_39 rfl ?_
      refine g_getR (pc := 40) S dX0_dependThree_40 fl_X0_12 k0 ?_
      refine g_iload_n (pc := 43) 2 S dX0_dependThree_43 rfl ?_
      refine g_iload_n (pc := 44) 3 S dX0_dependThree_44 rfl ?_
      refine g_iload (pc := 45) 4 S dX0_dependThree_45 rfl ?_
      refine g_bind hyp (fun y4 hy4 hyp => ?_)
      refine g_callV (pc := 47) (As := [.int a2, .int a3, .int a4]) (rest := [.ref (ad K c0)]) S dX0_dependThree_47 (kf_0_1 k0) rfl tw_547 tw_548 tw_549 mw_X7_cross (m_X7_cross (kf_0_1 k0) a2 a3 a4 h hy4) rfl rfl (Nat.le_of_ble_eq_true rfl) (Nat.le_of_ble_eq_true rfl) (Nat.le_of_ble_eq_true rfl) ?_
      refine g_aload_n (pc := 50) 0 S dX0_dependThree_50 rfl ?_
      refine g_getR (pc := 51) S dX0_dependThree_51 fl_X0_12 k0 ?_
      refine g_iload_n (pc := 54) 3 S dX0_dependThree_54 rfl ?_
      refine g_iload_n (pc := 55) 1 S dX0_dependThree_55 rfl ?_
      refine g_iload (pc := 56) 4 S dX0_dependThree_56 rfl ?_
      refine g_bind hyp (fun y5 hy5 hyp => ?_)
      refine g_callV (pc := 58) (As := [.int a3, .int a1, .int a4]) (rest := [.int y4, .ref (ad K c0)]) S dX0_dependThree_58 (kf_0_1 k0) rfl tw_547 tw_548 tw_549 mw_X7_cross (m_X7_cross (kf_0_1 k0) a3 a1 a4 h hy5) rfl rfl (Nat.le_of_ble_eq_true rfl) (Nat.le_of_ble_eq_true rfl) (Nat.le_of_ble_eq_true rfl) ?_
      refine g_aload_n (pc := 61) 0 S dX0_dependThree_61 rfl ?_
      refine g_getR (pc := 62) S dX0_dependThree_62 fl_X0_12 k0 ?_
      refine g_iload_n (pc := 65) 1 S dX0_dependThree_65 rfl ?_
      refine g_iload_n (pc := 66) 2 S dX0_dependThree_66 rfl ?_
      refine g_iload (pc := 67) 4 S dX0_dependThree_67 rfl ?_
      refine g_bind hyp (fun y6 hy6 hyp => ?_)
      refine g_callV (pc := 69) (As := [.int a1, .int a2, .int a4]) (rest := [.int y5, .int y4, .ref (ad K c0)]) S dX0_dependThree_69 (kf_0_1 k0) rfl tw_547 tw_548 tw_549 mw_X7_cross (m_X7_cross (kf_0_1 k0) a1 a2 a4 h hy6) rfl rfl (Nat.le_of_ble_eq_true rfl) (Nat.le_of_ble_eq_true rfl) (Nat.le_of_ble_eq_true rfl) ?_
      refine g_iconst (pc := 72) (v := (0 : Int32)) S dX0_dependThree_72 (by decide) ?_
      refine g_bind hyp (fun y7 hy7 hyp => ?_)
      refine g_callV (pc := 73) (As := [.int y4, .int y5, .int y6, .int (0 : Int32)]) (rest := []) S dX0_dependThree_73 k0 rfl tw_555 tw_556 tw_12 mw_X0_setFactors (m_X0_setFactors k0 y4 y5 y6 (0 : Int32) h hy7) rfl rfl (Nat.le_of_ble_eq_true rfl) (Nat.le_of_ble_eq_true rfl) (Nat.le_of_ble_eq_true rfl) ?_
      refine g_ckB hyp (fun hz hyp => ?_)
      have hyp := Option.some.inj hyp
      subst hyp
      exact g_zret (pc := 76) S (hret (y7.1, y7.2) rfl) dX0_dependThree_76 hz
  · have hyp := Option.some.inj hyp
    subst hyp
    exact g_sub [] rfl (hex0 h rfl)
set_option maxRecDepth 100000 in
set_option maxHeartbeats 4000000 in
theorem o_X0_dependThree {K : gK} (S : Cx K RX0 cX0_dependThree 5 1 31) {c0 : Nat} (k0 : kd c0 (10 + 0, 0)) (a1 : Int32) (a2 : Int32) (a3 : Int32) (h : Hp) {o : Int32 × Hp} (hyp : s_X0_dependThree c0 a1 a2 a3 h = some o) (F : Rt K (some .boolean) (some (.int o.1)) o.2) : Go K 0 [(0, .ref (ad K c0)), (1, .int a1), (2, .int a2), (3, .int a3)] [] h := by
  unfold s_X0_dependThree at hyp
  refine g_aload_n (pc := 0) 0 S dX0_dependThree_0 rfl ?_
  refine g_getR (pc := 1) S dX0_dependThree_1 fl_X0_12 k0 ?_
  refine g_iload_n (pc := 4) 1 S dX0_dependThree_4 rfl ?_
  refine g_iload_n (pc := 5) 2 S dX0_dependThree_5 rfl ?_
  refine g_iload_n (pc := 6) 3 S dX0_dependThree_6 rfl ?_
  refine g_bind hyp (fun y1 hy1 hyp => ?_)
  refine g_callV (pc := 7) (As := [.int a1, .int a2, .int a3]) (rest := []) S dX0_dependThree_7 (kf_0_1 k0) rfl tw_564 tw_565 tw_566 mw_X7_determinant (m_X7_determinant (kf_0_1 k0) a1 a2 a3 h hy1) rfl rfl (Nat.le_of_ble_eq_true rfl) (Nat.le_of_ble_eq_true rfl) (Nat.le_of_ble_eq_true rfl) ?_
  refine g_if_eq (pc := 10) (tgt := 15) S dX0_dependThree_10 (by decide) hyp (fun hyp => ?_) (fun hyp => ?_)
  · refine g_iconst (pc := 15) (v := (0 : Int32)) S dX0_dependThree_15 (by decide) ?_
    refine g_istore (pc := 16) (lv' := [(4, .int (0 : Int32)), (0, .ref (ad K c0)), (1, .int a1), (2, .int a2), (3, .int a3)]) S dX0_dependThree_16 (by decide) rfl ?_
    refine g_bind hyp (fun e8 he8 hyp => ?_)
    refine g_sub [1, 2, 3, 4, 0] rfl (g_loop (f := fun s : Int32 × Hp => s_X0_dependThree_l18 c0 a1 a2 a3 s.1 s.2) (ρ := (Hp) ⊕ (Int32 × Hp)) (Hd := fun s : Int32 × Hp => Go K 18 [(0, .ref (ad K c0)), (1, .int a1), (2, .int a2), (3, .int a3), (4, .int s.1)] [] s.2) (Ex := fun e8 => (∀ t, e8 = .inl t → Go K 83 [] [] t) ∧ (∀ t, e8 = .inr t → Rt K (some .boolean) (some (.int t.1)) t.2)) (fun s o h1 h2 h3 => o_X0_dependThree_l18 S k0 a1 a2 a3 s.1 s.2 h1 h2 (fun t q => (h3 _ q).1 t rfl) (fun t q => (h3 _ q).2 t rfl)) FUEL _ e8 he8 ?_)
    refine ⟨?_, ?_⟩
    · intro t9 q
      subst q
      try dsimp only [Sum.elim] at hyp
      refine g_iconst (pc := 83) (v := (0 : Int32)) S dX0_dependThree_83 (by decide) ?_
      have hyp := Option.some.inj hyp
      subst hyp
      exact g_zret (pc := 84) S F dX0_dependThree_84 (Or.inl rfl)
    · intro t10 q
      subst q
      try dsimp only [Sum.elim] at hyp
      have hyp := Option.some.inj hyp
      subst hyp
      exact F
  · refine g_iconst (pc := 13) (v := (0 : Int32)) S dX0_dependThree_13 (by decide) ?_
    have hyp := Option.some.inj hyp
    subst hyp
    exact g_zret (pc := 14) S F dX0_dependThree_14 (Or.inl rfl)
theorem m_X0_dependThree {l : Launch} {D : va_G} {cT : Nat → ClassId} {aD : Nat → Nat} {c0 : Nat} (k0 : kd c0 (10 + 0, 0)) (a1 : Int32) (a2 : Int32) (a3 : Int32) (h : Hp) {o : Int32 × Hp} (hyp : s_X0_dependThree c0 a1 a2 a3 h = some o) : Ok l D cT aD yX0_dependThree cX0_dependThree 5 (some .boolean) 1 31 [.ref (aD c0), .int a1, .int a2, .int a3] h (some (.int o.1)) o.2 :=
  Ok.of (by decide +kernel) rfl (Nat.le_of_ble_eq_true rfl) (fun K e1 e2 e3 e4 S F => by subst e1; exact o_X0_dependThree S k0 a1 a2 a3 h hyp F)
-- BoundProofs$Circuit dependFour (IIII)Z
noncomputable def s_X0_dependFour (c0 : Nat) (a1 : Int32) (a2 : Int32) (a3 : Int32) (a4 : Int32) (h : Hp) : Option (Int32 × Hp) :=
  (s_X7_determinant (c0 + 1) a1 a2 a3 h).bind fun y1 =>
  if y1 = 0 then (some ((0 : Int32), h))
  else ((s_X7_determinant (c0 + 1) a2 a3 a4 h).bind fun y2 =>
  (s_X7_determinant (c0 + 1) a1 a3 a4 h).bind fun y3 =>
  (s_X7_determinant (c0 + 1) a1 a2 a4 h).bind fun y4 =>
  (s_X0_setFactors c0 y2 (-y3) y4 (-y1) h).bind fun y5 =>
  ckB y5.1 <|
  some (y5.1, y5.2))
set_option maxRecDepth 100000 in
set_option maxHeartbeats 4000000 in
theorem o_X0_dependFour {K : gK} (S : Cx K RX0 cX0_dependFour 6 1 31) {c0 : Nat} (k0 : kd c0 (10 + 0, 0)) (a1 : Int32) (a2 : Int32) (a3 : Int32) (a4 : Int32) (h : Hp) {o : Int32 × Hp} (hyp : s_X0_dependFour c0 a1 a2 a3 a4 h = some o) (F : Rt K (some .boolean) (some (.int o.1)) o.2) : Go K 0 [(0, .ref (ad K c0)), (1, .int a1), (2, .int a2), (3, .int a3), (4, .int a4)] [] h := by
  unfold s_X0_dependFour at hyp
  refine g_aload_n (pc := 0) 0 S dX0_dependFour_0 rfl ?_
  refine g_getR (pc := 1) S dX0_dependFour_1 fl_X0_12 k0 ?_
  refine g_iload_n (pc := 4) 1 S dX0_dependFour_4 rfl ?_
  refine g_iload_n (pc := 5) 2 S dX0_dependFour_5 rfl ?_
  refine g_iload_n (pc := 6) 3 S dX0_dependFour_6 rfl ?_
  refine g_bind hyp (fun y1 hy1 hyp => ?_)
  refine g_callV (pc := 7) (As := [.int a1, .int a2, .int a3]) (rest := []) S dX0_dependFour_7 (kf_0_1 k0) rfl tw_564 tw_565 tw_566 mw_X7_determinant (m_X7_determinant (kf_0_1 k0) a1 a2 a3 h hy1) rfl rfl (Nat.le_of_ble_eq_true rfl) (Nat.le_of_ble_eq_true rfl) (Nat.le_of_ble_eq_true rfl) ?_
  refine g_istore (pc := 10) (lv' := [(5, .int y1), (0, .ref (ad K c0)), (1, .int a1), (2, .int a2), (3, .int a3), (4, .int a4)]) S dX0_dependFour_10 (by decide) rfl ?_
  refine g_iload (pc := 12) 0 S dX0_dependFour_12 rfl ?_
  refine g_if_ne (pc := 14) (tgt := 19) S dX0_dependFour_14 (by decide) hyp (fun hyp => ?_) (fun hyp => ?_)
  · refine g_iconst (pc := 17) (v := (0 : Int32)) S dX0_dependFour_17 (by decide) ?_
    have hyp := Option.some.inj hyp
    subst hyp
    exact g_zret (pc := 18) S F dX0_dependFour_18 (Or.inl rfl)
  · refine g_aload_n (pc := 19) 1 S dX0_dependFour_19 rfl ?_
    refine g_aload_n (pc := 20) 1 S dX0_dependFour_20 rfl ?_
    refine g_getR (pc := 21) S dX0_dependFour_21 fl_X0_12 k0 ?_
    refine g_iload_n (pc := 24) 3 S dX0_dependFour_24 rfl ?_
    refine g_iload_n (pc := 25) 4 S dX0_dependFour_25 rfl ?_
    refine g_iload (pc := 26) 5 S dX0_dependFour_26 rfl ?_
    refine g_bind hyp (fun y2 hy2 hyp => ?_)
    refine g_callV (pc := 28) (As := [.int a2, .int a3, .int a4]) (rest := [.ref (ad K c0)]) S dX0_dependFour_28 (kf_0_1 k0) rfl tw_564 tw_565 tw_566 mw_X7_determinant (m_X7_determinant (kf_0_1 k0) a2 a3 a4 h hy2) rfl rfl (Nat.le_of_ble_eq_true rfl) (Nat.le_of_ble_eq_true rfl) (Nat.le_of_ble_eq_true rfl) ?_
    refine g_aload_n (pc := 31) 1 S dX0_dependFour_31 rfl ?_
    refine g_getR (pc := 32) S dX0_dependFour_32 fl_X0_12 k0 ?_
    refine g_iload_n (pc := 35) 2 S dX0_dependFour_35 rfl ?_
    refine g_iload_n (pc := 36) 4 S dX0_dependFour_36 rfl ?_
    refine g_iload (pc := 37) 5 S dX0_dependFour_37 rfl ?_
    refine g_bind hyp (fun y3 hy3 hyp => ?_)
    refine g_callV (pc := 39) (As := [.int a1, .int a3, .int a4]) (rest := [.int y2, .ref (ad K c0)]) S dX0_dependFour_39 (kf_0_1 k0) rfl tw_564 tw_565 tw_566 mw_X7_determinant (m_X7_determinant (kf_0_1 k0) a1 a3 a4 h hy3) rfl rfl (Nat.le_of_ble_eq_true rfl) (Nat.le_of_ble_eq_true rfl) (Nat.le_of_ble_eq_true rfl) ?_
    refine g_ineg (pc := 42) S dX0_dependFour_42 ?_
    refine g_aload_n (pc := 43) 1 S dX0_dependFour_43 rfl ?_
    refine g_getR (pc := 44) S dX0_dependFour_44 fl_X0_12 k0 ?_
    refine g_iload_n (pc := 47) 2 S dX0_dependFour_47 rfl ?_
    refine g_iload_n (pc := 48) 3 S dX0_dependFour_48 rfl ?_
    refine g_iload (pc := 49) 5 S dX0_dependFour_49 rfl ?_
    refine g_bind hyp (fun y4 hy4 hyp => ?_)
    refine g_callV (pc := 51) (As := [.int a1, .int a2, .int a4]) (rest := [.int (-y3), .int y2, .ref (ad K c0)]) S dX0_dependFour_51 (kf_0_1 k0) rfl tw_564 tw_565 tw_566 mw_X7_determinant (m_X7_determinant (kf_0_1 k0) a1 a2 a4 h hy4) rfl rfl (Nat.le_of_ble_eq_true rfl) (Nat.le_of_ble_eq_true rfl) (Nat.le_of_ble_eq_true rfl) ?_
    refine g_iload (pc := 54) 0 S dX0_dependFour_54 rfl ?_
    refine g_ineg (pc := 56) S dX0_dependFour_56 ?_
    refine g_bind hyp (fun y5 hy5 hyp => ?_)
    refine g_callV (pc := 57) (As := [.int y2, .int (-y3), .int y4, .int (-y1)]) (rest := []) S dX0_dependFour_57 k0 rfl tw_555 tw_556 tw_12 mw_X0_setFactors (m_X0_setFactors k0 y2 (-y3) y4 (-y1) h hy5) rfl rfl (Nat.le_of_ble_eq_true rfl) (Nat.le_of_ble_eq_true rfl) (Nat.le_of_ble_eq_true rfl) ?_
    refine g_ckB hyp (fun hz hyp => ?_)
    have hyp := Option.some.inj hyp
    subst hyp
    exact g_zret (pc := 60) S F dX0_dependFour_60 hz
theorem m_X0_dependFour {l : Launch} {D : va_G} {cT : Nat → ClassId} {aD : Nat → Nat} {c0 : Nat} (k0 : kd c0 (10 + 0, 0)) (a1 : Int32) (a2 : Int32) (a3 : Int32) (a4 : Int32) (h : Hp) {o : Int32 × Hp} (hyp : s_X0_dependFour c0 a1 a2 a3 a4 h = some o) : Ok l D cT aD yX0_dependFour cX0_dependFour 6 (some .boolean) 1 31 [.ref (aD c0), .int a1, .int a2, .int a3, .int a4] h (some (.int o.1)) o.2 :=
  Ok.of (by decide +kernel) rfl (Nat.le_of_ble_eq_true rfl) (fun K e1 e2 e3 e4 S F => by subst e1; exact o_X0_dependFour S k0 a1 a2 a3 a4 h hyp F)
-- BoundProofs$Circuit examine (I)Z
noncomputable def s_X0_examine_b64 (c0 : Nat) (a1 : Int32) (a2 : Int32) (h : Hp) : Option ((Int32 × Hp) ⊕ (Hp)) :=
  lt (a2 + (1 : Int32)) fun v2_3 =>
  some (.inl (v2_3, h))
noncomputable def s_X0_examine_l17 (c0 : Nat) (a1 : Int32) (a2 : Int32) (h : Hp) : Option ((Int32 × Hp) ⊕ (Hp)) :=
  if a2 < (h.1 (c0 + 1) 4) then (if (h.1 c0 3) < (4 : Int32) then (if ((a1 >>> (a2 &&& 31)) &&& (1 : Int32)) = 0 then (s_X0_examine_b64 c0 a1 a2 h)
  else (stI h (c0 + 6) 4 (h.1 c0 3) a2 fun h4 =>
  lt (sI h4 c0 3 ((h4.1 c0 3) + (1 : Int32))) fun h5 =>
  s_X0_examine_b64 c0 a1 a2 h5))
  else (some (.inr (h))))
  else (some (.inr (h)))
noncomputable def s_X0_examine (c0 : Nat) (a1 : Int32) (h : Hp) : Option (Int32 × Hp) :=
  (s_J6_bitCount_0f7a4  a1 h).bind fun y1 =>
  if (4 : Int32) < y1 then (some ((0 : Int32), h))
  else (lt (sI h c0 3 (0 : Int32)) fun h2 =>
  (iter (fun s : Int32 × Hp => s_X0_examine_l17 c0 a1 s.1 s.2) FUEL ((0 : Int32), h2)).bind fun e6 =>
  if (e6.1 c0 3) = (2 : Int32) then (ldI e6 (c0 + 6) 4 (0 : Int32) fun x7 =>
  ldI e6 (c0 + 6) 4 (1 : Int32) fun x8 =>
  (s_X0_dependTwo c0 x7 x8 e6).bind fun y9 =>
  if y9.1 = 0 then (some ((0 : Int32), y9.2))
  else ((s_X0_turn c0  y9.2).bind fun y10 =>
  if y10.1 = 0 then (some ((0 : Int32), y10.2))
  else (some ((1 : Int32), y10.2))))
  else (if (e6.1 c0 3) = (3 : Int32) then (ldI e6 (c0 + 6) 4 (0 : Int32) fun x11 =>
  ldI e6 (c0 + 6) 4 (1 : Int32) fun x12 =>
  ldI e6 (c0 + 6) 4 (2 : Int32) fun x13 =>
  (s_X0_dependThree c0 x11 x12 x13 e6).bind fun y14 =>
  if y14.1 = 0 then (some ((0 : Int32), y14.2))
  else ((s_X0_turn c0  y14.2).bind fun y15 =>
  if y15.1 = 0 then (some ((0 : Int32), y15.2))
  else (some ((1 : Int32), y15.2))))
  else (if (e6.1 c0 3) = (4 : Int32) then (ldI e6 (c0 + 6) 4 (0 : Int32) fun x16 =>
  ldI e6 (c0 + 6) 4 (1 : Int32) fun x17 =>
  ldI e6 (c0 + 6) 4 (2 : Int32) fun x18 =>
  ldI e6 (c0 + 6) 4 (3 : Int32) fun x19 =>
  (s_X0_dependFour c0 x16 x17 x18 x19 e6).bind fun y20 =>
  if y20.1 = 0 then (some ((0 : Int32), y20.2))
  else ((s_X0_turn c0  y20.2).bind fun y21 =>
  if y21.1 = 0 then (some ((0 : Int32), y21.2))
  else (some ((1 : Int32), y21.2))))
  else (some ((0 : Int32), e6)))))
set_option maxRecDepth 100000 in
set_option maxHeartbeats 4000000 in
theorem o_X0_examine_b64 {K : gK} (S : Cx K RX0 cX0_examine 3 2 60) {c0 : Nat} (k0 : kd c0 (10 + 0, 0)) (a1 : Int32) (a2 : Int32) (h : Hp) {o : (Int32 × Hp) ⊕ (Hp)} (hyp : s_X0_examine_b64 c0 a1 a2 h = some o) (hin : ∀ s', o = .inl s' → Go K 17 [(0, .ref (ad K c0)), (1, .int a1), (2, .int s'.1)] [] s'.2) (hex0 : ∀ s', o = .inr (s') → Go K 70 [(0, .ref (ad K c0))] [] s') : Go K 64 [(0, .ref (ad K c0)), (1, .int a1), (2, .int a2)] [] h := by
  unfold s_X0_examine_b64 at hyp
  refine g_iinc (pc := 64) (v := (a2 + (1 : Int32))) (lv' := [(2, .int (a2 + (1 : Int32))), (0, .ref (ad K c0)), (1, .int a1)]) 2 S dX0_examine_64 rfl (by rfl) (by decide) rfl ?_
  refine g_lti (C := fun v2_3 => Go K (64 + 3) [(2, .int v2_3), (0, .ref (ad K c0)), (1, .int a1)] [] h) hyp (fun v2_3 hyp => ?_)
  refine g_goto (pc := 67) (tgt := 17) S dX0_examine_67 (by decide) ?_
  have hyp := Option.some.inj hyp
  subst hyp
  exact g_sub [1, 2, 0] rfl (hin (v2_3, h) rfl)
set_option maxRecDepth 100000 in
set_option maxHeartbeats 4000000 in
theorem o_X0_examine_l17 {K : gK} (S : Cx K RX0 cX0_examine 3 2 60) {c0 : Nat} (k0 : kd c0 (10 + 0, 0)) (a1 : Int32) (a2 : Int32) (h : Hp) {o : (Int32 × Hp) ⊕ (Hp)} (hyp : s_X0_examine_l17 c0 a1 a2 h = some o) (hin : ∀ s', o = .inl s' → Go K 17 [(0, .ref (ad K c0)), (1, .int a1), (2, .int s'.1)] [] s'.2) (hex0 : ∀ s', o = .inr (s') → Go K 70 [(0, .ref (ad K c0))] [] s') : Go K 17 [(0, .ref (ad K c0)), (1, .int a1), (2, .int a2)] [] h := by
  unfold s_X0_examine_l17 at hyp
  refine g_iload_n (pc := 17) 2 S dX0_examine_17 rfl ?_
  refine g_aload_n (pc := 18) 0 S dX0_examine_18 rfl ?_
  refine g_getR (pc := 19) S dX0_examine_19 fl_X0_12 k0 ?_
  refine g_getI (pc := 22) S dX0_examine_22 fl_X0_43 (kf_0_1 k0) ?_
  refine g_icmp_ge (pc := 25) (tgt := 70) S dX0_examine_25 (by decide) hyp (fun hyp => ?_) (fun hyp => ?_)
  · refine g_aload_n (pc := 28) 0 S dX0_examine_28 rfl ?_
    refine g_getI (pc := 29) S dX0_examine_29 fl_X0_25 k0 ?_
    refine g_iconst (pc := 32) (v := (4 : Int32)) S dX0_examine_32 (by decide) ?_
    refine g_icmp_ge (pc := 33) (tgt := 70) S dX0_examine_33 (by decide) hyp (fun hyp => ?_) (fun hyp => ?_)
    · refine g_iload_n (pc := 36) 1 S dX0_examine_36 rfl ?_
      refine g_iload_n (pc := 37) 2 S dX0_examine_37 rfl ?_
      refine g_ishr (pc := 38) S dX0_examine_38 ?_
      refine g_iconst (pc := 39) (v := (1 : Int32)) S dX0_examine_39 (by decide) ?_
      refine g_iand (pc := 40) S dX0_examine_40 ?_
      refine g_if_eq (pc := 41) (tgt := 64) S dX0_examine_41 (by decide) hyp (fun hyp => ?_) (fun hyp => ?_)
      · exact g_sub [0, 1, 2] rfl (o_X0_examine_b64 S k0 a1 a2 h hyp hin hex0)
      · refine g_aload_n (pc := 44) 0 S dX0_examine_44 rfl ?_
        refine g_getR (pc := 45) S dX0_examine_45 fl_X0_18 k0 ?_
        refine g_aload_n (pc := 48) 0 S dX0_examine_48 rfl ?_
        refine g_getI (pc := 49) S dX0_examine_49 fl_X0_25 k0 ?_
        refine g_iload_n (pc := 52) 2 S dX0_examine_52 rfl ?_
        refine g_iast (pc := 53) S dX0_examine_53 (kf_0_6 k0) hyp (fun h4 hyp => ?_)
        refine g_aload_n (pc := 54) 0 S dX0_examine_54 rfl ?_
        refine g_dup (pc := 55) S dX0_examine_55 rfl ?_
        refine g_getI (pc := 56) S dX0_examine_56 fl_X0_25 k0 ?_
        refine g_iconst (pc := 59) (v := (1 : Int32)) S dX0_examine_59 (by decide) ?_
        refine g_iadd (pc := 60) S dX0_examine_60 ?_
        refine g_putI (pc := 61) S dX0_examine_61 fl_X0_25 k0 hyp (fun h5 hyp => ?_)
        exact g_sub [0, 1, 2] rfl (o_X0_examine_b64 S k0 a1 a2 h5 hyp hin hex0)
    · have hyp := Option.some.inj hyp
      subst hyp
      exact g_sub [0] rfl (hex0 h rfl)
  · have hyp := Option.some.inj hyp
    subst hyp
    exact g_sub [0] rfl (hex0 h rfl)
set_option maxRecDepth 100000 in
set_option maxHeartbeats 4000000 in
theorem o_X0_examine {K : gK} (S : Cx K RX0 cX0_examine 3 2 60) {c0 : Nat} (k0 : kd c0 (10 + 0, 0)) (a1 : Int32) (h : Hp) {o : Int32 × Hp} (hyp : s_X0_examine c0 a1 h = some o) (F : Rt K (some .boolean) (some (.int o.1)) o.2) : Go K 0 [(0, .ref (ad K c0)), (1, .int a1)] [] h := by
  unfold s_X0_examine at hyp
  refine g_iload_n (pc := 0) 1 S dX0_examine_0 rfl ?_
  refine g_bind hyp (fun y1 hy1 hyp => ?_)
  refine g_callS (pc := 1) (As := [.int a1]) (rest := []) S dX0_examine_1 tw_543 tw_534 mw_J6_bitCount_0f7a4 (m_J6_bitCount_0f7a4  a1 h hy1) rfl rfl (Nat.le_of_ble_eq_true rfl) (Nat.le_of_ble_eq_true rfl) (Nat.le_of_ble_eq_true rfl) ?_
  refine g_iconst (pc := 4) (v := (4 : Int32)) S dX0_examine_4 (by decide) ?_
  refine g_icmp_le (pc := 5) (tgt := 10) S dX0_examine_5 (by decide) hyp (fun hyp => ?_) (fun hyp => ?_)
  · refine g_iconst (pc := 8) (v := (0 : Int32)) S dX0_examine_8 (by decide) ?_
    have hyp := Option.some.inj hyp
    subst hyp
    exact g_zret (pc := 9) S F dX0_examine_9 (Or.inl rfl)
  · refine g_aload_n (pc := 10) 0 S dX0_examine_10 rfl ?_
    refine g_iconst (pc := 11) (v := (0 : Int32)) S dX0_examine_11 (by decide) ?_
    refine g_putI (pc := 12) S dX0_examine_12 fl_X0_25 k0 hyp (fun h2 hyp => ?_)
    refine g_iconst (pc := 15) (v := (0 : Int32)) S dX0_examine_15 (by decide) ?_
    refine g_istore_n (pc := 16) (lv' := [(2, .int (0 : Int32)), (0, .ref (ad K c0)), (1, .int a1)]) S dX0_examine_16 rfl (by decide) rfl ?_
    refine g_bind hyp (fun e6 he6 hyp => ?_)
    refine g_sub [1, 2, 0] rfl (g_loop (f := fun s : Int32 × Hp => s_X0_examine_l17 c0 a1 s.1 s.2) (ρ := Hp) (Hd := fun s : Int32 × Hp => Go K 17 [(0, .ref (ad K c0)), (1, .int a1), (2, .int s.1)] [] s.2) (Ex := fun e6 => Go K 70 [(0, .ref (ad K c0))] [] e6) (fun s o h1 h2 h3 => o_X0_examine_l17 S k0 a1 s.1 s.2 h1 h2 h3) FUEL _ e6 he6 ?_)
    refine g_aload_n (pc := 70) 0 S dX0_examine_70 rfl ?_
    refine g_getI (pc := 71) S dX0_examine_71 fl_X0_25 k0 ?_
    refine g_iconst (pc := 74) (v := (2 : Int32)) S dX0_examine_74 (by decide) ?_
    refine g_icmp_ne (pc := 75) (tgt := 110) S dX0_examine_75 (by decide) hyp (fun hyp => ?_) (fun hyp => ?_)
    · refine g_aload_n (pc := 78) 0 S dX0_examine_78 rfl ?_
      refine g_aload_n (pc := 79) 0 S dX0_examine_79 rfl ?_
      refine g_getR (pc := 80) S dX0_examine_80 fl_X0_18 k0 ?_
      refine g_iconst (pc := 83) (v := (0 : Int32)) S dX0_examine_83 (by decide) ?_
      refine g_iald (pc := 84) S dX0_examine_84 (kf_0_6 k0) hyp (fun x7 hyp => ?_)
      refine g_aload_n (pc := 85) 0 S dX0_examine_85 rfl ?_
      refine g_getR (pc := 86) S dX0_examine_86 fl_X0_18 k0 ?_
      refine g_iconst (pc := 89) (v := (1 : Int32)) S dX0_examine_89 (by decide) ?_
      refine g_iald (pc := 90) S dX0_examine_90 (kf_0_6 k0) hyp (fun x8 hyp => ?_)
      refine g_bind hyp (fun y9 hy9 hyp => ?_)
      refine g_callV (pc := 91) (As := [.int x7, .int x8]) (rest := []) S dX0_examine_91 k0 rfl tw_544 tw_545 tw_11 mw_X0_dependTwo (m_X0_dependTwo k0 x7 x8 e6 hy9) rfl rfl (Nat.le_of_ble_eq_true rfl) (Nat.le_of_ble_eq_true rfl) (Nat.le_of_ble_eq_true rfl) ?_
      refine g_if_eq (pc := 94) (tgt := 108) S dX0_examine_94 (by decide) hyp (fun hyp => ?_) (fun hyp => ?_)
      · refine g_iconst (pc := 108) (v := (0 : Int32)) S dX0_examine_108 (by decide) ?_
        have hyp := Option.some.inj hyp
        subst hyp
        exact g_zret (pc := 109) S F dX0_examine_109 (Or.inl rfl)
      · refine g_aload_n (pc := 97) 0 S dX0_examine_97 rfl ?_
        refine g_bind hyp (fun y10 hy10 hyp => ?_)
        refine g_callV (pc := 98) (As := []) (rest := []) S dX0_examine_98 k0 rfl tw_558 tw_559 tw_13 mw_X0_turn (m_X0_turn k0  y9.2 hy10) rfl rfl (Nat.le_of_ble_eq_true rfl) (Nat.le_of_ble_eq_true rfl) (Nat.le_of_ble_eq_true rfl) ?_
        refine g_if_eq (pc := 101) (tgt := 108) S dX0_examine_101 (by decide) hyp (fun hyp => ?_) (fun hyp => ?_)
        · refine g_iconst (pc := 108) (v := (0 : Int32)) S dX0_examine_108 (by decide) ?_
          have hyp := Option.some.inj hyp
          subst hyp
          exact g_zret (pc := 109) S F dX0_examine_109 (Or.inl rfl)
        · refine g_iconst (pc := 104) (v := (1 : Int32)) S dX0_examine_104 (by decide) ?_
          refine g_goto (pc := 105) (tgt := 109) S dX0_examine_105 (by decide) ?_
          have hyp := Option.some.inj hyp
          subst hyp
          exact g_zret (pc := 109) S F dX0_examine_109 (Or.inr rfl)
    · refine g_aload_n (pc := 110) 0 S dX0_examine_110 rfl ?_
      refine g_getI (pc := 111) S dX0_examine_111 fl_X0_25 k0 ?_
      refine g_iconst (pc := 114) (v := (3 : Int32)) S dX0_examine_114 (by decide) ?_
      refine g_icmp_ne (pc := 115) (tgt := 156) S dX0_examine_115 (by decide) hyp (fun hyp => ?_) (fun hyp => ?_)
      · refine g_aload_n (pc := 118) 0 S dX0_examine_118 rfl ?_
        refine g_aload_n (pc := 119) 0 S dX0_examine_119 rfl ?_
        refine g_getR (pc := 120) S dX0_examine_120 fl_X0_18 k0 ?_
        refine g_iconst (pc := 123) (v := (0 : Int32)) S dX0_examine_123 (by decide) ?_
        refine g_iald (pc := 124) S dX0_examine_124 (kf_0_6 k0) hyp (fun x11 hyp => ?_)
        refine g_aload_n (pc := 125) 0 S dX0_examine_125 rfl ?_
        refine g_getR (pc := 126) S dX0_examine_126 fl_X0_18 k0 ?_
        refine g_iconst (pc := 129) (v := (1 : Int32)) S dX0_examine_129 (by decide) ?_
        refine g_iald (pc := 130) S dX0_examine_130 (kf_0_6 k0) hyp (fun x12 hyp => ?_)
        refine g_aload_n (pc := 131) 0 S dX0_examine_131 rfl ?_
        refine g_getR (pc := 132) S dX0_examine_132 fl_X0_18 k0 ?_
        refine g_iconst (pc := 135) (v := (2 : Int32)) S dX0_examine_135 (by decide) ?_
        refine g_iald (pc := 136) S dX0_examine_136 (kf_0_6 k0) hyp (fun x13 hyp => ?_)
        refine g_bind hyp (fun y14 hy14 hyp => ?_)
        refine g_callV (pc := 137) (As := [.int x11, .int x12, .int x13]) (rest := []) S dX0_examine_137 k0 rfl tw_561 tw_562 tw_14 mw_X0_dependThree (m_X0_dependThree k0 x11 x12 x13 e6 hy14) rfl rfl (Nat.le_of_ble_eq_true rfl) (Nat.le_of_ble_eq_true rfl) (Nat.le_of_ble_eq_true rfl) ?_
        refine g_if_eq (pc := 140) (tgt := 154) S dX0_examine_140 (by decide) hyp (fun hyp => ?_) (fun hyp => ?_)
        · refine g_iconst (pc := 154) (v := (0 : Int32)) S dX0_examine_154 (by decide) ?_
          have hyp := Option.some.inj hyp
          subst hyp
          exact g_zret (pc := 155) S F dX0_examine_155 (Or.inl rfl)
        · refine g_aload_n (pc := 143) 0 S dX0_examine_143 rfl ?_
          refine g_bind hyp (fun y15 hy15 hyp => ?_)
          refine g_callV (pc := 144) (As := []) (rest := []) S dX0_examine_144 k0 rfl tw_558 tw_559 tw_13 mw_X0_turn (m_X0_turn k0  y14.2 hy15) rfl rfl (Nat.le_of_ble_eq_true rfl) (Nat.le_of_ble_eq_true rfl) (Nat.le_of_ble_eq_true rfl) ?_
          refine g_if_eq (pc := 147) (tgt := 154) S dX0_examine_147 (by decide) hyp (fun hyp => ?_) (fun hyp => ?_)
          · refine g_iconst (pc := 154) (v := (0 : Int32)) S dX0_examine_154 (by decide) ?_
            have hyp := Option.some.inj hyp
            subst hyp
            exact g_zret (pc := 155) S F dX0_examine_155 (Or.inl rfl)
          · refine g_iconst (pc := 150) (v := (1 : Int32)) S dX0_examine_150 (by decide) ?_
            refine g_goto (pc := 151) (tgt := 155) S dX0_examine_151 (by decide) ?_
            have hyp := Option.some.inj hyp
            subst hyp
            exact g_zret (pc := 155) S F dX0_examine_155 (Or.inr rfl)
      · refine g_aload_n (pc := 156) 0 S dX0_examine_156 rfl ?_
        refine g_getI (pc := 157) S dX0_examine_157 fl_X0_25 k0 ?_
        refine g_iconst (pc := 160) (v := (4 : Int32)) S dX0_examine_160 (by decide) ?_
        refine g_icmp_ne (pc := 161) (tgt := 206) S dX0_examine_161 (by decide) hyp (fun hyp => ?_) (fun hyp => ?_)
        · refine g_aload_n (pc := 164) 0 S dX0_examine_164 rfl ?_
          refine g_aload_n (pc := 165) 0 S dX0_examine_165 rfl ?_
          refine g_getR (pc := 166) S dX0_examine_166 fl_X0_18 k0 ?_
          refine g_iconst (pc := 169) (v := (0 : Int32)) S dX0_examine_169 (by decide) ?_
          refine g_iald (pc := 170) S dX0_examine_170 (kf_0_6 k0) hyp (fun x16 hyp => ?_)
          refine g_aload_n (pc := 171) 0 S dX0_examine_171 rfl ?_
          refine g_getR (pc := 172) S dX0_examine_172 fl_X0_18 k0 ?_
          refine g_iconst (pc := 175) (v := (1 : Int32)) S dX0_examine_175 (by decide) ?_
          refine g_iald (pc := 176) S dX0_examine_176 (kf_0_6 k0) hyp (fun x17 hyp => ?_)
          refine g_aload_n (pc := 177) 0 S dX0_examine_177 rfl ?_
          refine g_getR (pc := 178) S dX0_examine_178 fl_X0_18 k0 ?_
          refine g_iconst (pc := 181) (v := (2 : Int32)) S dX0_examine_181 (by decide) ?_
          refine g_iald (pc := 182) S dX0_examine_182 (kf_0_6 k0) hyp (fun x18 hyp => ?_)
          refine g_aload_n (pc := 183) 0 S dX0_examine_183 rfl ?_
          refine g_getR (pc := 184) S dX0_examine_184 fl_X0_18 k0 ?_
          refine g_iconst (pc := 187) (v := (3 : Int32)) S dX0_examine_187 (by decide) ?_
          refine g_iald (pc := 188) S dX0_examine_188 (kf_0_6 k0) hyp (fun x19 hyp => ?_)
          refine g_bind hyp (fun y20 hy20 hyp => ?_)
          refine g_callV (pc := 189) (As := [.int x16, .int x17, .int x18, .int x19]) (rest := []) S dX0_examine_189 k0 rfl tw_568 tw_569 tw_15 mw_X0_dependFour (m_X0_dependFour k0 x16 x17 x18 x19 e6 hy20) rfl rfl (Nat.le_of_ble_eq_true rfl) (Nat.le_of_ble_eq_true rfl) (Nat.le_of_ble_eq_true rfl) ?_
          refine g_if_eq (pc := 192) (tgt := 206) S dX0_examine_192 (by decide) hyp (fun hyp => ?_) (fun hyp => ?_)
          · refine g_iconst (pc := 206) (v := (0 : Int32)) S dX0_examine_206 (by decide) ?_
            have hyp := Option.some.inj hyp
            subst hyp
            exact g_zret (pc := 207) S F dX0_examine_207 (Or.inl rfl)
          · refine g_aload_n (pc := 195) 0 S dX0_examine_195 rfl ?_
            refine g_bind hyp (fun y21 hy21 hyp => ?_)
            refine g_callV (pc := 196) (As := []) (rest := []) S dX0_examine_196 k0 rfl tw_558 tw_559 tw_13 mw_X0_turn (m_X0_turn k0  y20.2 hy21) rfl rfl (Nat.le_of_ble_eq_true rfl) (Nat.le_of_ble_eq_true rfl) (Nat.le_of_ble_eq_true rfl) ?_
            refine g_if_eq (pc := 199) (tgt := 206) S dX0_examine_199 (by decide) hyp (fun hyp => ?_) (fun hyp => ?_)
            · refine g_iconst (pc := 206) (v := (0 : Int32)) S dX0_examine_206 (by decide) ?_
              have hyp := Option.some.inj hyp
              subst hyp
              exact g_zret (pc := 207) S F dX0_examine_207 (Or.inl rfl)
            · refine g_iconst (pc := 202) (v := (1 : Int32)) S dX0_examine_202 (by decide) ?_
              refine g_goto (pc := 203) (tgt := 207) S dX0_examine_203 (by decide) ?_
              have hyp := Option.some.inj hyp
              subst hyp
              exact g_zret (pc := 207) S F dX0_examine_207 (Or.inr rfl)
        · refine g_iconst (pc := 206) (v := (0 : Int32)) S dX0_examine_206 (by decide) ?_
          have hyp := Option.some.inj hyp
          subst hyp
          exact g_zret (pc := 207) S F dX0_examine_207 (Or.inl rfl)
theorem m_X0_examine {l : Launch} {D : va_G} {cT : Nat → ClassId} {aD : Nat → Nat} {c0 : Nat} (k0 : kd c0 (10 + 0, 0)) (a1 : Int32) (h : Hp) {o : Int32 × Hp} (hyp : s_X0_examine c0 a1 h = some o) : Ok l D cT aD yX0_examine cX0_examine 3 (some .boolean) 2 60 [.ref (aD c0), .int a1] h (some (.int o.1)) o.2 :=
  Ok.of (by decide +kernel) rfl (Nat.le_of_ble_eq_true rfl) (fun K e1 e2 e3 e4 S F => by subst e1; exact o_X0_examine S k0 a1 h hyp F)
-- BoundProofs$Circuit contradicts ()Z
noncomputable def s_X0_contradicts (c0 : Nat)  (h : Hp) : Option (Int32) :=
  if (h.2 c0 4) < (0 : Int64) then (some (1 : Int32))
  else (if (h.2 c0 4) = (0 : Int64) then (if (h.1 c0 5) = 0 then (some (0 : Int32))
  else (some (1 : Int32)))
  else (some (0 : Int32)))
set_option maxRecDepth 100000 in
set_option maxHeartbeats 4000000 in
theorem o_X0_contradicts {K : gK} (S : Cx K RX0 cX0_contradicts 1 0 0) {c0 : Nat} (k0 : kd c0 (10 + 0, 0))  (h : Hp) {o : Int32} (hyp : s_X0_contradicts c0  h = some o) (F : Rt K (some .boolean) (some (.int o)) h) : Go K 0 [(0, .ref (ad K c0))] [] h := by
  unfold s_X0_contradicts at hyp
  refine g_aload_n (pc := 0) 0 S dX0_contradicts_0 rfl ?_
  refine g_getJ (pc := 1) S dX0_contradicts_1 fl_X0_29 k0 ?_
  refine g_lconst (pc := 4) (v := (0 : Int64)) S dX0_contradicts_4 (by decide) ?_
  refine g_lcmp_lt (pc := 5) (tgt := 25) S dX0_contradicts_5 dX0_contradicts_6 (by decide) hyp (fun hyp => ?_) (fun hyp => ?_)
  · refine g_iconst (pc := 25) (v := (1 : Int32)) S dX0_contradicts_25 (by decide) ?_
    refine g_goto (pc := 26) (tgt := 30) S dX0_contradicts_26 (by decide) ?_
    have hyp := Option.some.inj hyp
    subst hyp
    exact g_zret (pc := 30) S F dX0_contradicts_30 (Or.inr rfl)
  · refine g_aload_n (pc := 9) 0 S dX0_contradicts_9 rfl ?_
    refine g_getJ (pc := 10) S dX0_contradicts_10 fl_X0_29 k0 ?_
    refine g_lconst (pc := 13) (v := (0 : Int64)) S dX0_contradicts_13 (by decide) ?_
    refine g_lcmp_ne (pc := 14) (tgt := 29) S dX0_contradicts_14 dX0_contradicts_15 (by decide) hyp (fun hyp => ?_) (fun hyp => ?_)
    · refine g_aload_n (pc := 18) 0 S dX0_contradicts_18 rfl ?_
      refine g_getI (pc := 19) S dX0_contradicts_19 fl_X0_33 k0 ?_
      refine g_if_eq (pc := 22) (tgt := 29) S dX0_contradicts_22 (by decide) hyp (fun hyp => ?_) (fun hyp => ?_)
      · refine g_iconst (pc := 29) (v := (0 : Int32)) S dX0_contradicts_29 (by decide) ?_
        have hyp := Option.some.inj hyp
        subst hyp
        exact g_zret (pc := 30) S F dX0_contradicts_30 (Or.inl rfl)
      · refine g_iconst (pc := 25) (v := (1 : Int32)) S dX0_contradicts_25 (by decide) ?_
        refine g_goto (pc := 26) (tgt := 30) S dX0_contradicts_26 (by decide) ?_
        have hyp := Option.some.inj hyp
        subst hyp
        exact g_zret (pc := 30) S F dX0_contradicts_30 (Or.inr rfl)
    · refine g_iconst (pc := 29) (v := (0 : Int32)) S dX0_contradicts_29 (by decide) ?_
      have hyp := Option.some.inj hyp
      subst hyp
      exact g_zret (pc := 30) S F dX0_contradicts_30 (Or.inl rfl)
theorem m_X0_contradicts {l : Launch} {D : va_G} {cT : Nat → ClassId} {aD : Nat → Nat} {c0 : Nat} (k0 : kd c0 (10 + 0, 0))  (h : Hp) {o : Int32} (hyp : s_X0_contradicts c0  h = some o) : Ok l D cT aD yX0_contradicts cX0_contradicts 1 (some .boolean) 0 0 [.ref (aD c0)] h (some (.int o)) h :=
  Ok.of (by decide +kernel) rfl (Nat.le_of_ble_eq_true rfl) (fun K e1 e2 e3 e4 S F => by subst e1; exact o_X0_contradicts S k0  h hyp F)
-- BoundProofs$Clashes extend ()V
noncomputable def s_X1_extend_b102 (c0 : Nat) (a1 : Int32) (a2 : Int32) (a3 : Int32) (h : Hp) : Option ((Int32 × Int32 × Hp) ⊕ (Int32 × Hp)) :=
  lt (a3 + (1 : Int32)) fun v3_4 =>
  some (.inl (a1, v3_4, h))
noncomputable def s_X1_extend_l41 (c0 : Nat) (a1 : Int32) (a2 : Int32) (a3 : Int32) (h : Hp) : Option ((Int32 × Int32 × Hp) ⊕ (Int32 × Hp)) :=
  if a3 < a2 then ((s_J6_bitCount_0f7a4  a3 h).bind fun y3 =>
  if (h.1 (c0 + 2) 5) < y3 then (s_X1_extend_b102 c0 a1 a2 a3 h)
  else (if a1 < (781 : Int32) then ((s_X0_examine (c0 + 1) (a3 ||| a2) h).bind fun y5 =>
  if y5.1 = 0 then (s_X1_extend_b102 c0 a1 a2 a3 y5.2)
  else ((s_X0_contradicts (c0 + 1)  y5.2).bind fun y6 =>
  if y6 = 0 then (s_X1_extend_b102 c0 a1 a2 a3 y5.2)
  else (stI y5.2 (c0 + 9) 781 a1 (a3 ||| a2) fun h7 =>
  lt (a1 + (1 : Int32)) fun v1_8 =>
  s_X1_extend_b102 c0 v1_8 a2 a3 h7)))
  else (s_X1_extend_b102 c0 a1 a2 a3 h)))
  else (some (.inr ((a1, h))))
noncomputable def s_X1_extend (c0 : Nat)  (h : Hp) : Option (Hp) :=
  if (h.1 (c0 + 2) 4) < (1 : Int32) then (some h)
  else (ldI h (c0 + 10) 13 ((h.1 (c0 + 2) 4) - (1 : Int32)) fun x1 =>
  lt ((1 : Int32) <<< (((h.1 (c0 + 2) 4) - (1 : Int32)) &&& 31)) fun v2_2 =>
  (iter (fun s : Int32 × Int32 × Hp => s_X1_extend_l41 c0 s.1 v2_2 s.2.1 s.2.2) FUEL (x1, (1 : Int32), h)).bind fun e9 =>
  stI e9.2 (c0 + 10) 13 (e9.2.1 (c0 + 2) 4) e9.1 fun h10 =>
  some h10)
set_option maxRecDepth 100000 in
set_option maxHeartbeats 4000000 in
theorem o_X1_extend_b102 {K : gK} (S : Cx K RX1 cX1_extend 4 3 86) {c0 : Nat} (k0 : kd c0 (10 + 1, 0)) (a1 : Int32) (a2 : Int32) (a3 : Int32) (h : Hp) {o : (Int32 × Int32 × Hp) ⊕ (Int32 × Hp)} (hyp : s_X1_extend_b102 c0 a1 a2 a3 h = some o) (hin : ∀ s', o = .inl s' → Go K 41 [(0, .ref (ad K c0)), (1, .int s'.1), (2, .int a2), (3, .int s'.2.1)] [] s'.2.2) (hex0 : ∀ s', o = .inr (s') → Go K 108 [(0, .ref (ad K c0)), (1, .int s'.1)] [] s'.2) : Go K 102 [(0, .ref (ad K c0)), (1, .int a1), (2, .int a2), (3, .int a3)] [] h := by
  unfold s_X1_extend_b102 at hyp
  refine g_iinc (pc := 102) (v := (a3 + (1 : Int32))) (lv' := [(3, .int (a3 + (1 : Int32))), (0, .ref (ad K c0)), (1, .int a1), (2, .int a2)]) 3 S dX1_extend_102 rfl (by rfl) (by decide) rfl ?_
  refine g_lti (C := fun v3_4 => Go K (102 + 3) [(3, .int v3_4), (0, .ref (ad K c0)), (1, .int a1), (2, .int a2)] [] h) hyp (fun v3_4 hyp => ?_)
  refine g_goto (pc := 105) (tgt := 41) S dX1_extend_105 (by decide) ?_
  have hyp := Option.some.inj hyp
  subst hyp
  exact g_sub [1, 2, 3, 0] rfl (hin (a1, v3_4, h) rfl)
set_option maxRecDepth 100000 in
set_option maxHeartbeats 4000000 in
theorem o_X1_extend_l41 {K : gK} (S : Cx K RX1 cX1_extend 4 3 86) {c0 : Nat} (k0 : kd c0 (10 + 1, 0)) (a1 : Int32) (a2 : Int32) (a3 : Int32) (h : Hp) {o : (Int32 × Int32 × Hp) ⊕ (Int32 × Hp)} (hyp : s_X1_extend_l41 c0 a1 a2 a3 h = some o) (hin : ∀ s', o = .inl s' → Go K 41 [(0, .ref (ad K c0)), (1, .int s'.1), (2, .int a2), (3, .int s'.2.1)] [] s'.2.2) (hex0 : ∀ s', o = .inr (s') → Go K 108 [(0, .ref (ad K c0)), (1, .int s'.1)] [] s'.2) : Go K 41 [(0, .ref (ad K c0)), (1, .int a1), (2, .int a2), (3, .int a3)] [] h := by
  unfold s_X1_extend_l41 at hyp
  refine g_iload_n (pc := 41) 3 S dX1_extend_41 rfl ?_
  refine g_iload_n (pc := 42) 2 S dX1_extend_42 rfl ?_
  refine g_icmp_ge (pc := 43) (tgt := 108) S dX1_extend_43 (by decide) hyp (fun hyp => ?_) (fun hyp => ?_)
  · refine g_iload_n (pc := 46) 3 S dX1_extend_46 rfl ?_
    refine g_bind hyp (fun y3 hy3 hyp => ?_)
    refine g_callS (pc := 47) (As := [.int a3]) (rest := []) S dX1_extend_47 tw_533 tw_534 mw_J6_bitCount_0f7a4 (m_J6_bitCount_0f7a4  a3 h hy3) rfl rfl (Nat.le_of_ble_eq_true rfl) (Nat.le_of_ble_eq_true rfl) (Nat.le_of_ble_eq_true rfl) ?_
    refine g_aload_n (pc := 50) 0 S dX1_extend_50 rfl ?_
    refine g_getR (pc := 51) S dX1_extend_51 fl_X1_22 k0 ?_
    refine g_getI (pc := 54) S dX1_extend_54 fl_X1_42 (kf_1_2 k0) ?_
    refine g_icmp_gt (pc := 57) (tgt := 102) S dX1_extend_57 (by decide) hyp (fun hyp => ?_) (fun hyp => ?_)
    · exact g_sub [0, 1, 2, 3] rfl (o_X1_extend_b102 S k0 a1 a2 a3 h hyp hin hex0)
    · refine g_iload_n (pc := 60) 1 S dX1_extend_60 rfl ?_
      refine g_sipush (pc := 61) (v := (781 : Int32)) S dX1_extend_61 (by decide) ?_
      refine g_icmp_ge (pc := 64) (tgt := 102) S dX1_extend_64 (by decide) hyp (fun hyp => ?_) (fun hyp => ?_)
      · refine g_aload_n (pc := 67) 0 S dX1_extend_67 rfl ?_
        refine g_getR (pc := 68) S dX1_extend_68 fl_X1_12 k0 ?_
        refine g_iload_n (pc := 71) 3 S dX1_extend_71 rfl ?_
        refine g_iload_n (pc := 72) 2 S dX1_extend_72 rfl ?_
        refine g_ior (pc := 73) S dX1_extend_73 ?_
        refine g_bind hyp (fun y5 hy5 hyp => ?_)
        refine g_callV (pc := 74) (As := [.int (a3 ||| a2)]) (rest := []) S dX1_extend_74 (kf_1_1 k0) rfl tw_539 tw_540 tw_541 mw_X0_examine (m_X0_examine (kf_1_1 k0) (a3 ||| a2) h hy5) rfl rfl (Nat.le_of_ble_eq_true rfl) (Nat.le_of_ble_eq_true rfl) (Nat.le_of_ble_eq_true rfl) ?_
        refine g_if_eq (pc := 77) (tgt := 102) S dX1_extend_77 (by decide) hyp (fun hyp => ?_) (fun hyp => ?_)
        · exact g_sub [0, 1, 2, 3] rfl (o_X1_extend_b102 S k0 a1 a2 a3 y5.2 hyp hin hex0)
        · refine g_aload_n (pc := 80) 0 S dX1_extend_80 rfl ?_
          refine g_getR (pc := 81) S dX1_extend_81 fl_X1_12 k0 ?_
          refine g_bind hyp (fun y6 hy6 hyp => ?_)
          refine g_callV (pc := 84) (As := []) (rest := []) S dX1_extend_84 (kf_1_1 k0) rfl tw_571 tw_572 tw_573 mw_X0_contradicts (m_X0_contradicts (kf_1_1 k0)  y5.2 hy6) rfl rfl (Nat.le_of_ble_eq_true rfl) (Nat.le_of_ble_eq_true rfl) (Nat.le_of_ble_eq_true rfl) ?_
          refine g_if_eq (pc := 87) (tgt := 102) S dX1_extend_87 (by decide) hyp (fun hyp => ?_) (fun hyp => ?_)
          · exact g_sub [0, 1, 2, 3] rfl (o_X1_extend_b102 S k0 a1 a2 a3 y5.2 hyp hin hex0)
          · refine g_aload_n (pc := 90) 0 S dX1_extend_90 rfl ?_
            refine g_getR (pc := 91) S dX1_extend_91 fl_X1_23 k0 ?_
            refine g_iload_n (pc := 94) 1 S dX1_extend_94 rfl ?_
            refine g_iload_n (pc := 95) 3 S dX1_extend_95 rfl ?_
            refine g_iload_n (pc := 96) 2 S dX1_extend_96 rfl ?_
            refine g_ior (pc := 97) S dX1_extend_97 ?_
            refine g_iast (pc := 98) S dX1_extend_98 (kf_1_9 k0) hyp (fun h7 hyp => ?_)
            refine g_iinc (pc := 99) (v := (a1 + (1 : Int32))) (lv' := [(1, .int (a1 + (1 : Int32))), (0, .ref (ad K c0)), (2, .int a2), (3, .int a3)]) 1 S dX1_extend_99 rfl (by rfl) (by decide) rfl ?_
            refine g_lti (C := fun v1_8 => Go K (99 + 3) [(1, .int v1_8), (0, .ref (ad K c0)), (2, .int a2), (3, .int a3)] [] h7) hyp (fun v1_8 hyp => ?_)
            exact g_sub [1, 0, 2, 3] rfl (o_X1_extend_b102 S k0 v1_8 a2 a3 h7 hyp hin hex0)
      · exact g_sub [0, 1, 2, 3] rfl (o_X1_extend_b102 S k0 a1 a2 a3 h hyp hin hex0)
  · have hyp := Option.some.inj hyp
    subst hyp
    exact g_sub [0, 1] rfl (hex0 (a1, h) rfl)
set_option maxRecDepth 100000 in
set_option maxHeartbeats 4000000 in
theorem o_X1_extend {K : gK} (S : Cx K RX1 cX1_extend 4 3 86) {c0 : Nat} (k0 : kd c0 (10 + 1, 0))  (h : Hp) {o : Hp} (hyp : s_X1_extend c0  h = some o) (F : Rt K none none o) : Go K 0 [(0, .ref (ad K c0))] [] h := by
  unfold s_X1_extend at hyp
  refine g_aload_n (pc := 0) 0 S dX1_extend_0 rfl ?_
  refine g_getR (pc := 1) S dX1_extend_1 fl_X1_22 k0 ?_
  refine g_getI (pc := 4) S dX1_extend_4 fl_X1_30 (kf_1_2 k0) ?_
  refine g_iconst (pc := 7) (v := (1 : Int32)) S dX1_extend_7 (by decide) ?_
  refine g_icmp_ge (pc := 8) (tgt := 12) S dX1_extend_8 (by decide) hyp (fun hyp => ?_) (fun hyp => ?_)
  · have hyp := Option.some.inj hyp
    subst hyp
    exact g_vret (pc := 11) S F dX1_extend_11
  · refine g_aload_n (pc := 12) 0 S dX1_extend_12 rfl ?_
    refine g_getR (pc := 13) S dX1_extend_13 fl_X1_27 k0 ?_
    refine g_aload_n (pc := 16) 0 S dX1_extend_16 rfl ?_
    refine g_getR (pc := 17) S dX1_extend_17 fl_X1_22 k0 ?_
    refine g_getI (pc := 20) S dX1_extend_20 fl_X1_30 (kf_1_2 k0) ?_
    refine g_iconst (pc := 23) (v := (1 : Int32)) S dX1_extend_23 (by decide) ?_
    refine g_isub (pc := 24) S dX1_extend_24 ?_
    refine g_iald (pc := 25) S dX1_extend_25 (kf_1_10 k0) hyp (fun x1 hyp => ?_)
    refine g_istore_n (pc := 26) (lv' := [(1, .int x1), (0, .ref (ad K c0))]) S dX1_extend_26 rfl (by decide) rfl ?_
    refine g_iconst (pc := 27) (v := (1 : Int32)) S dX1_extend_27 (by decide) ?_
    refine g_aload_n (pc := 28) 1 S dX1_extend_28 rfl ?_
    refine g_getR (pc := 29) S dX1_extend_29 fl_X1_22 k0 ?_
    refine g_getI (pc := 32) S dX1_extend_32 fl_X1_30 (kf_1_2 k0) ?_
    refine g_iconst (pc := 35) (v := (1 : Int32)) S dX1_extend_35 (by decide) ?_
    refine g_isub (pc := 36) S dX1_extend_36 ?_
    refine g_ishl (pc := 37) S dX1_extend_37 ?_
    refine g_lti (C := fun v2_2 => Go K 38 [(1, .int x1), (0, .ref (ad K c0))] [.int v2_2] h) hyp (fun v2_2 hyp => ?_)
    refine g_istore_n (pc := 38) (lv' := [(2, .int v2_2), (1, .int x1), (0, .ref (ad K c0))]) S dX1_extend_38 rfl (by decide) rfl ?_
    refine g_iconst (pc := 39) (v := (1 : Int32)) S dX1_extend_39 (by decide) ?_
    refine g_istore_n (pc := 40) (lv' := [(3, .int (1 : Int32)), (2, .int v2_2), (1, .int x1), (0, .ref (ad K c0))]) S dX1_extend_40 rfl (by decide) rfl ?_
    refine g_bind hyp (fun e9 he9 hyp => ?_)
    refine g_sub [3, 2, 1, 0] rfl (g_loop (f := fun s : Int32 × Int32 × Hp => s_X1_extend_l41 c0 s.1 v2_2 s.2.1 s.2.2) (ρ := Int32 × Hp) (Hd := fun s : Int32 × Int32 × Hp => Go K 41 [(0, .ref (ad K c0)), (1, .int s.1), (2, .int v2_2), (3, .int s.2.1)] [] s.2.2) (Ex := fun e9 => Go K 108 [(0, .ref (ad K c0)), (1, .int e9.1)] [] e9.2) (fun s o h1 h2 h3 => o_X1_extend_l41 S k0 s.1 v2_2 s.2.1 s.2.2 h1 h2 h3) FUEL _ e9 he9 ?_)
    refine g_aload_n (pc := 108) 0 S dX1_extend_108 rfl ?_
    refine g_getR (pc := 109) S dX1_extend_109 fl_X1_27 k0 ?_
    refine g_aload_n (pc := 112) 0 S dX1_extend_112 rfl ?_
    refine g_getR (pc := 113) S dX1_extend_113 fl_X1_22 k0 ?_
    refine g_getI (pc := 116) S dX1_extend_116 fl_X1_30 (kf_1_2 k0) ?_
    refine g_iload_n (pc := 119) 1 S dX1_extend_119 rfl ?_
    refine g_iast (pc := 120) S dX1_extend_120 (kf_1_10 k0) hyp (fun h10 hyp => ?_)
    have hyp := Option.some.inj hyp
    subst hyp
    exact g_vret (pc := 121) S F dX1_extend_121
theorem m_X1_extend {l : Launch} {D : va_G} {cT : Nat → ClassId} {aD : Nat → Nat} {c0 : Nat} (k0 : kd c0 (10 + 1, 0))  (h : Hp) {o : Hp} (hyp : s_X1_extend c0  h = some o) : Ok l D cT aD yX1_extend cX1_extend 4 none 3 86 [.ref (aD c0)] h none o :=
  Ok.of (by decide +kernel) rfl (Nat.le_of_ble_eq_true rfl) (fun K e1 e2 e3 e4 S F => by subst e1; exact o_X1_extend S k0  h hyp F)
-- BoundProofs pushRow (III)V
noncomputable def s_X9_pushRow (c0 : Nat) (a1 : Int32) (a2 : Int32) (a3 : Int32) (h : Hp) : Option (Hp) :=
  (s_X5_entry (c0 + 1) a1 (0 : Int32) h).bind fun y1 =>
  (s_X5_entry (c0 + 1) a1 (1 : Int32) h).bind fun y2 =>
  (s_X5_entry (c0 + 1) a1 (2 : Int32) h).bind fun y3 =>
  (s_X7_push (c0 + 32) y1 y2 y3 (a3).toInt64 a2 h).bind fun y4 =>
  (s_X1_extend (c0 + 30)  y4).bind fun y5 =>
  some y5
set_option maxRecDepth 100000 in
set_option maxHeartbeats 4000000 in
theorem o_X9_pushRow {K : gK} (S : Cx K RX9 cX9_pushRow 4 4 113) {c0 : Nat} (k0 : kd c0 (10 + 9, 0)) (a1 : Int32) (a2 : Int32) (a3 : Int32) (h : Hp) {o : Hp} (hyp : s_X9_pushRow c0 a1 a2 a3 h = some o) (F : Rt K none none o) : Go K 0 [(0, .ref (ad K c0)), (1, .int a1), (2, .int a2), (3, .int a3)] [] h := by
  unfold s_X9_pushRow at hyp
  refine g_aload_n (pc := 0) 0 S dX9_pushRow_0 rfl ?_
  refine g_getR (pc := 1) S dX9_pushRow_1 fl_X9_52 k0 ?_
  refine g_aload_n (pc := 4) 0 S dX9_pushRow_4 rfl ?_
  refine g_getR (pc := 5) S dX9_pushRow_5 fl_X9_12 k0 ?_
  refine g_iload_n (pc := 8) 1 S dX9_pushRow_8 rfl ?_
  refine g_iconst (pc := 9) (v := (0 : Int32)) S dX9_pushRow_9 (by decide) ?_
  refine g_bind hyp (fun y1 hy1 hyp => ?_)
  refine g_callV (pc := 10) (As := [.int a1, .int (0 : Int32)]) (rest := [.ref (ad K (c0 + 32))]) S dX9_pushRow_10 (kf_9_1 k0) rfl tw_516 tw_517 tw_518 mw_X5_entry (m_X5_entry (kf_9_1 k0) a1 (0 : Int32) h hy1) rfl rfl (Nat.le_of_ble_eq_true rfl) (Nat.le_of_ble_eq_true rfl) (Nat.le_of_ble_eq_true rfl) ?_
  refine g_aload_n (pc := 13) 0 S dX9_pushRow_13 rfl ?_
  refine g_getR (pc := 14) S dX9_pushRow_14 fl_X9_12 k0 ?_
  refine g_iload_n (pc := 17) 1 S dX9_pushRow_17 rfl ?_
  refine g_iconst (pc := 18) (v := (1 : Int32)) S dX9_pushRow_18 (by decide) ?_
  refine g_bind hyp (fun y2 hy2 hyp => ?_)
  refine g_callV (pc := 19) (As := [.int a1, .int (1 : Int32)]) (rest := [.int y1, .ref (ad K (c0 + 32))]) S dX9_pushRow_19 (kf_9_1 k0) rfl tw_516 tw_517 tw_518 mw_X5_entry (m_X5_entry (kf_9_1 k0) a1 (1 : Int32) h hy2) rfl rfl (Nat.le_of_ble_eq_true rfl) (Nat.le_of_ble_eq_true rfl) (Nat.le_of_ble_eq_true rfl) ?_
  refine g_aload_n (pc := 22) 0 S dX9_pushRow_22 rfl ?_
  refine g_getR (pc := 23) S dX9_pushRow_23 fl_X9_12 k0 ?_
  refine g_iload_n (pc := 26) 1 S dX9_pushRow_26 rfl ?_
  refine g_iconst (pc := 27) (v := (2 : Int32)) S dX9_pushRow_27 (by decide) ?_
  refine g_bind hyp (fun y3 hy3 hyp => ?_)
  refine g_callV (pc := 28) (As := [.int a1, .int (2 : Int32)]) (rest := [.int y2, .int y1, .ref (ad K (c0 + 32))]) S dX9_pushRow_28 (kf_9_1 k0) rfl tw_516 tw_517 tw_518 mw_X5_entry (m_X5_entry (kf_9_1 k0) a1 (2 : Int32) h hy3) rfl rfl (Nat.le_of_ble_eq_true rfl) (Nat.le_of_ble_eq_true rfl) (Nat.le_of_ble_eq_true rfl) ?_
  refine g_iload_n (pc := 31) 3 S dX9_pushRow_31 rfl ?_
  refine g_i2l (pc := 32) S dX9_pushRow_32 ?_
  refine g_iload_n (pc := 33) 2 S dX9_pushRow_33 rfl ?_
  refine g_bind hyp (fun y4 hy4 hyp => ?_)
  refine g_callV (pc := 34) (As := [.int y1, .int y2, .int y3, .long (a3).toInt64, .int a2]) (rest := []) S dX9_pushRow_34 (kf_9_32 k0) rfl tw_525 tw_526 tw_527 mw_X7_push (m_X7_push (kf_9_32 k0) y1 y2 y3 (a3).toInt64 a2 h hy4) rfl rfl (Nat.le_of_ble_eq_true rfl) (Nat.le_of_ble_eq_true rfl) (Nat.le_of_ble_eq_true rfl) ?_
  refine g_aload_n (pc := 37) 0 S dX9_pushRow_37 rfl ?_
  refine g_getR (pc := 38) S dX9_pushRow_38 fl_X9_37 k0 ?_
  refine g_bind hyp (fun y5 hy5 hyp => ?_)
  refine g_callV (pc := 41) (As := []) (rest := []) S dX9_pushRow_41 (kf_9_30 k0) rfl tw_529 tw_530 tw_531 mw_X1_extend (m_X1_extend (kf_9_30 k0)  y4 hy5) rfl rfl (Nat.le_of_ble_eq_true rfl) (Nat.le_of_ble_eq_true rfl) (Nat.le_of_ble_eq_true rfl) ?_
  have hyp := Option.some.inj hyp
  subst hyp
  exact g_vret (pc := 44) S F dX9_pushRow_44
theorem m_X9_pushRow {l : Launch} {D : va_G} {cT : Nat → ClassId} {aD : Nat → Nat} {c0 : Nat} (k0 : kd c0 (10 + 9, 0)) (a1 : Int32) (a2 : Int32) (a3 : Int32) (h : Hp) {o : Hp} (hyp : s_X9_pushRow c0 a1 a2 a3 h = some o) : Ok l D cT aD yX9_pushRow cX9_pushRow 4 none 4 113 [.ref (aD c0), .int a1, .int a2, .int a3] h none o :=
  Ok.of (by decide +kernel) rfl (Nat.le_of_ble_eq_true rfl) (fun K e1 e2 e3 e4 S F => by subst e1; exact o_X9_pushRow S k0 a1 a2 a3 h hyp F)
-- BoundProofs loadRows ()V
noncomputable def s_X9_loadRows_l16 (c0 : Nat) (a1 : Int32) (h : Hp) : Option ((Int32 × Hp) ⊕ (Hp)) :=
  if a1 < (h.1 (c0 + 1) 2) then (ldI h ((c0 + 1) + 2) 10 a1 fun x2 =>
  ldI h ((c0 + 1) + 3) 10 a1 fun x3 =>
  ldI h ((c0 + 1) + 4) 10 a1 fun x4 =>
  (s_X9_pushRow c0 x2 x3 x4 h).bind fun y5 =>
  lt (a1 + (1 : Int32)) fun v1_6 =>
  some (.inl (v1_6, y5)))
  else (some (.inr (h)))
noncomputable def s_X9_loadRows (c0 : Nat)  (h : Hp) : Option (Hp) :=
  (s_X7_restart (c0 + 32) (h.1 (c0 + 1) 0) h).bind fun y1 =>
  (iter (fun s : Int32 × Hp => s_X9_loadRows_l16 c0 s.1 s.2) FUEL ((0 : Int32), y1)).bind fun e7 =>
  some e7
set_option maxRecDepth 100000 in
set_option maxHeartbeats 4000000 in
theorem o_X9_loadRows_l16 {K : gK} (S : Cx K RX9 cX9_loadRows 2 5 140) {c0 : Nat} (k0 : kd c0 (10 + 9, 0)) (a1 : Int32) (h : Hp) {o : (Int32 × Hp) ⊕ (Hp)} (hyp : s_X9_loadRows_l16 c0 a1 h = some o) (hin : ∀ s', o = .inl s' → Go K 16 [(0, .ref (ad K c0)), (1, .int s'.1)] [] s'.2) (hex0 : ∀ s', o = .inr (s') → Go K 64 [] [] s') : Go K 16 [(0, .ref (ad K c0)), (1, .int a1)] [] h := by
  unfold s_X9_loadRows_l16 at hyp
  refine g_iload_n (pc := 16) 1 S dX9_loadRows_16 rfl ?_
  refine g_aload_n (pc := 17) 0 S dX9_loadRows_17 rfl ?_
  refine g_getR (pc := 18) S dX9_loadRows_18 fl_X9_12 k0 ?_
  refine g_getI (pc := 21) S dX9_loadRows_21 fl_X9_140 (kf_9_1 k0) ?_
  refine g_icmp_ge (pc := 24) (tgt := 64) S dX9_loadRows_24 (by decide) hyp (fun hyp => ?_) (fun hyp => ?_)
  · refine g_aload_n (pc := 27) 0 S dX9_loadRows_27 rfl ?_
    refine g_aload_n (pc := 28) 0 S dX9_loadRows_28 rfl ?_
    refine g_getR (pc := 29) S dX9_loadRows_29 fl_X9_12 k0 ?_
    refine g_getR (pc := 32) S dX9_loadRows_32 fl_X9_146 (kf_9_1 k0) ?_
    refine g_iload_n (pc := 35) 1 S dX9_loadRows_35 rfl ?_
    refine g_iald (pc := 36) S dX9_loadRows_36 (kf_5_2 (kf_9_1 k0)) hyp (fun x2 hyp => ?_)
    refine g_aload_n (pc := 37) 0 S dX9_loadRows_37 rfl ?_
    refine g_getR (pc := 38) S dX9_loadRows_38 fl_X9_12 k0 ?_
    refine g_getR (pc := 41) S dX9_loadRows_41 fl_X9_150 (kf_9_1 k0) ?_
    refine g_iload_n (pc := 44) 1 S dX9_loadRows_44 rfl ?_
    refine g_iald (pc := 45) S dX9_loadRows_45 (kf_5_3 (kf_9_1 k0)) hyp (fun x3 hyp => ?_)
    refine g_aload_n (pc := 46) 0 S dX9_loadRows_46 rfl ?_
    refine g_getR (pc := 47) S dX9_loadRows_47 fl_X9_12 k0 ?_
    refine g_getR (pc := 50) S dX9_loadRows_50 fl_X9_153 (kf_9_1 k0) ?_
    refine g_iload_n (pc := 53) 1 S dX9_loadRows_53 rfl ?_
    refine g_iald (pc := 54) S dX9_loadRows_54 (kf_5_4 (kf_9_1 k0)) hyp (fun x4 hyp => ?_)
    refine g_bind hyp (fun y5 hy5 hyp => ?_)
    refine g_callV (pc := 55) (As := [.int x2, .int x3, .int x4]) (rest := []) S dX9_loadRows_55 k0 rfl tw_513 tw_514 tw_10 mw_X9_pushRow (m_X9_pushRow k0 x2 x3 x4 h hy5) rfl rfl (Nat.le_of_ble_eq_true rfl) (Nat.le_of_ble_eq_true rfl) (Nat.le_of_ble_eq_true rfl) ?_
    refine g_iinc (pc := 58) (v := (a1 + (1 : Int32))) (lv' := [(1, .int (a1 + (1 : Int32))), (0, .ref (ad K c0))]) 1 S dX9_loadRows_58 rfl (by rfl) (by decide) rfl ?_
    refine g_lti (C := fun v1_6 => Go K (58 + 3) [(1, .int v1_6), (0, .ref (ad K c0))] [] y5) hyp (fun v1_6 hyp => ?_)
    refine g_goto (pc := 61) (tgt := 16) S dX9_loadRows_61 (by decide) ?_
    have hyp := Option.some.inj hyp
    subst hyp
    exact g_sub [1, 0] rfl (hin (v1_6, y5) rfl)
  · have hyp := Option.some.inj hyp
    subst hyp
    exact g_sub [] rfl (hex0 h rfl)
set_option maxRecDepth 100000 in
set_option maxHeartbeats 4000000 in
theorem o_X9_loadRows {K : gK} (S : Cx K RX9 cX9_loadRows 2 5 140) {c0 : Nat} (k0 : kd c0 (10 + 9, 0))  (h : Hp) {o : Hp} (hyp : s_X9_loadRows c0  h = some o) (F : Rt K none none o) : Go K 0 [(0, .ref (ad K c0))] [] h := by
  unfold s_X9_loadRows at hyp
  refine g_aload_n (pc := 0) 0 S dX9_loadRows_0 rfl ?_
  refine g_getR (pc := 1) S dX9_loadRows_1 fl_X9_52 k0 ?_
  refine g_aload_n (pc := 4) 0 S dX9_loadRows_4 rfl ?_
  refine g_getR (pc := 5) S dX9_loadRows_5 fl_X9_12 k0 ?_
  refine g_getI (pc := 8) S dX9_loadRows_8 fl_X9_249 (kf_9_1 k0) ?_
  refine g_bind hyp (fun y1 hy1 hyp => ?_)
  refine g_callV (pc := 11) (As := [.int (h.1 (c0 + 1) 0)]) (rest := []) S dX9_loadRows_11 (kf_9_32 k0) rfl tw_509 tw_510 tw_511 mw_X7_restart (m_X7_restart (kf_9_32 k0) (h.1 (c0 + 1) 0) h hy1) rfl rfl (Nat.le_of_ble_eq_true rfl) (Nat.le_of_ble_eq_true rfl) (Nat.le_of_ble_eq_true rfl) ?_
  refine g_iconst (pc := 14) (v := (0 : Int32)) S dX9_loadRows_14 (by decide) ?_
  refine g_istore_n (pc := 15) (lv' := [(1, .int (0 : Int32)), (0, .ref (ad K c0))]) S dX9_loadRows_15 rfl (by decide) rfl ?_
  refine g_bind hyp (fun e7 he7 hyp => ?_)
  refine g_sub [1, 0] rfl (g_loop (f := fun s : Int32 × Hp => s_X9_loadRows_l16 c0 s.1 s.2) (ρ := Hp) (Hd := fun s : Int32 × Hp => Go K 16 [(0, .ref (ad K c0)), (1, .int s.1)] [] s.2) (Ex := fun e7 => Go K 64 [] [] e7) (fun s o h1 h2 h3 => o_X9_loadRows_l16 S k0 s.1 s.2 h1 h2 h3) FUEL _ e7 he7 ?_)
  have hyp := Option.some.inj hyp
  subst hyp
  exact g_vret (pc := 64) S F dX9_loadRows_64
theorem m_X9_loadRows {l : Launch} {D : va_G} {cT : Nat → ClassId} {aD : Nat → Nat} {c0 : Nat} (k0 : kd c0 (10 + 9, 0))  (h : Hp) {o : Hp} (hyp : s_X9_loadRows c0  h = some o) : Ok l D cT aD yX9_loadRows cX9_loadRows 2 none 5 140 [.ref (aD c0)] h none o :=
  Ok.of (by decide +kernel) rfl (Nat.le_of_ble_eq_true rfl) (fun K e1 e2 e3 e4 S F => by subst e1; exact o_X9_loadRows S k0  h hyp F)
