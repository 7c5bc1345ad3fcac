-- BoundProofs$Sampler descend (LBoundProofs$Limit;LBoundProofs$Limit;)V
noncomputable def s_X8_descend_b130 (c0 : Nat) (c1 : Nat) (c2 : Nat) (a14 : Int64) (a16 : Int64) (a18 : Int64) (a20 : Int64) (a23 : Int64) (h : Hp) : Option ((Int64 × Int64 × Int32 × Int64 × Int64 × Int32 × Int32 × Int64 × Int64 × Int64 × Int64 × Int32 × Hp) ⊕ ((Hp) ⊕ (Hp))) :=
  lt (sJ h c0 5 ((a14 * a23) + a16)) fun h9 =>
  lt (sJ h9 c0 6 ((a18 * a23) + a20)) fun h10 =>
  some (.inr (.inr h10))
noncomputable def s_X8_descend_b243 (c0 : Nat) (c1 : Nat) (c2 : Nat) (a3 : Int64) (a5 : Int64) (a7 : Int32) (a8 : Int64) (a10 : Int64) (a12 : Int32) (a14 : Int64) (a16 : Int64) (a18 : Int64) (a20 : Int64) (a22 : Int32) (t0 : Int32) (h : Hp) : Option ((Int64 × Int64 × Int32 × Int64 × Int64 × Int32 × Int32 × Int64 × Int64 × Int64 × Int64 × Int32 × Hp) ⊕ ((Hp) ⊕ (Hp))) :=
  lt (a22 + (1 : Int32)) fun v22_16 =>
  some (.inl (a3, a5, a12, a8, a10, a7, t0, a14, a16, a18, a20, v22_16, h))
noncomputable def s_X8_descend_b155 (c0 : Nat) (c1 : Nat) (c2 : Nat) (a3 : Int64) (a5 : Int64) (a7 : Int32) (a8 : Int64) (a10 : Int64) (a12 : Int32) (a14 : Int64) (a16 : Int64) (a18 : Int64) (a20 : Int64) (a22 : Int32) (a23 : Int64) (h : Hp) : Option ((Int64 × Int64 × Int32 × Int64 × Int64 × Int32 × Int32 × Int64 × Int64 × Int64 × Int64 × Int32 × Hp) ⊕ ((Hp) ⊕ (Hp))) :=
  lt (a23 - (1 : Int64)) fun v25_11 =>
  lt (a3 - (v25_11 * a5)) fun v27_12 =>
  lt (a8 - (v25_11 * a10)) fun v29_13 =>
  lt ((a14 * v25_11) + a16) fun v14_14 =>
  lt ((a18 * v25_11) + a20) fun v18_15 =>
  if (0 : Int64) < v27_12 then (s_X8_descend_b243 c0 c1 c2 a10 v29_13 a7 a5 v27_12 a12 v14_14 a14 v18_15 a18 a22 (1 : Int32) h)
  else (s_X8_descend_b243 c0 c1 c2 a10 v29_13 a7 a5 v27_12 a12 v14_14 a14 v18_15 a18 a22 (0 : Int32) h)
noncomputable def s_X8_descend_b96 (c0 : Nat) (c1 : Nat) (c2 : Nat) (a3 : Int64) (a5 : Int64) (a7 : Int32) (a8 : Int64) (a10 : Int64) (a12 : Int32) (a13 : Int32) (a14 : Int64) (a16 : Int64) (a18 : Int64) (a20 : Int64) (a22 : Int32) (t0 : Int64) (h : Hp) : Option ((Int64 × Int64 × Int32 × Int64 × Int64 × Int32 × Int32 × Int64 × Int64 × Int64 × Int64 × Int32 × Hp) ⊕ ((Hp) ⊕ (Hp))) :=
  if a13 = 0 then (s_X8_descend_b130 c0 c1 c2 a14 a16 a18 a20 t0 h)
  else (if (t0 * a10) < a8 then (s_X8_descend_b130 c0 c1 c2 a14 a16 a18 a20 t0 h)
  else (if (t0 * a10) = a8 then (if a12 = 0 then (s_X8_descend_b130 c0 c1 c2 a14 a16 a18 a20 t0 h)
  else (s_X8_descend_b155 c0 c1 c2 a3 a5 a7 a8 a10 a12 a14 a16 a18 a20 a22 t0 h))
  else (s_X8_descend_b155 c0 c1 c2 a3 a5 a7 a8 a10 a12 a14 a16 a18 a20 a22 t0 h)))
noncomputable def s_X8_descend_l57 (c0 : Nat) (c1 : Nat) (c2 : Nat) (a3 : Int64) (a5 : Int64) (a7 : Int32) (a8 : Int64) (a10 : Int64) (a12 : Int32) (a13 : Int32) (a14 : Int64) (a16 : Int64) (a18 : Int64) (a20 : Int64) (a22 : Int32) (h : Hp) : Option ((Int64 × Int64 × Int32 × Int64 × Int64 × Int32 × Int32 × Int64 × Int64 × Int64 × Int64 × Int32 × Hp) ⊕ ((Hp) ⊕ (Hp))) :=
  if a22 < (200 : Int32) then (if (0 : Int64) < a5 then (if a7 = 0 then ((s_J9_floorDiv_f86c9  (-a3) a5 h).bind fun y8 =>
  s_X8_descend_b96 c0 c1 c2 a3 a5 a7 a8 a10 a12 a13 a14 a16 a18 a20 a22 (-y8) h)
  else ((s_J9_floorDiv_f86c9  a3 a5 h).bind fun y17 =>
  s_X8_descend_b96 c0 c1 c2 a3 a5 a7 a8 a10 a12 a13 a14 a16 a18 a20 a22 (y17 + (1 : Int64)) h))
  else (some (.inr (.inl h))))
  else (some (.inr (.inl h)))
noncomputable def s_X8_descend (c0 : Nat) (c1 : Nat) (c2 : Nat)  (h : Hp) : Option (Hp) :=
  lt (-(h.2 c1 1)) fun v3_1 =>
  lt (h.2 c1 2) fun v5_2 =>
  lt (h.1 c1 3) fun v7_3 =>
  lt (h.2 c2 1) fun v8_4 =>
  lt (h.2 c2 2) fun v10_5 =>
  lt (h.1 c2 3) fun v12_6 =>
  lt (h.1 c2 0) fun v13_7 =>
  (iter (fun s : Int64 × Int64 × Int32 × Int64 × Int64 × Int32 × Int32 × Int64 × Int64 × Int64 × Int64 × Int32 × Hp => s_X8_descend_l57 c0 c1 c2 s.1 s.2.1 s.2.2.1 s.2.2.2.1 s.2.2.2.2.1 s.2.2.2.2.2.1 s.2.2.2.2.2.2.1 s.2.2.2.2.2.2.2.1 s.2.2.2.2.2.2.2.2.1 s.2.2.2.2.2.2.2.2.2.1 s.2.2.2.2.2.2.2.2.2.2.1 s.2.2.2.2.2.2.2.2.2.2.2.1 s.2.2.2.2.2.2.2.2.2.2.2.2) FUEL (v3_1, v5_2, v7_3, v8_4, v10_5, v12_6, v13_7, (1 : Int64), (0 : Int64), (0 : Int64), (1 : Int64), (0 : Int32), h)).bind (Sum.elim (fun t19 => some t19)
  (fun t20 => some t20))
set_option maxRecDepth 100000 in
set_option maxHeartbeats 4000000 in
theorem o_X8_descend_b130 {K : gK} (S : Cx K RX8 cX8_descend 36 1 29) {c0 : Nat} (k0 : kd c0 (10 + 8, 0)) {c1 : Nat} (k1 : kd c1 (10 + 4, 0)) {c2 : Nat} (k2 : kd c2 (10 + 4, 0)) (a14 : Int64) (a16 : Int64) (a18 : Int64) (a20 : Int64) (a23 : Int64) (h : Hp) {o : (Int64 × Int64 × Int32 × Int64 × Int64 × Int32 × Int32 × Int64 × Int64 × Int64 × Int64 × Int32 × Hp) ⊕ ((Hp) ⊕ (Hp))} (hyp : s_X8_descend_b130 c0 c1 c2 a14 a16 a18 a20 a23 h = some o) (hin : ∀ s', o = .inl s' → Go K 57 [(0, .ref (ad K c0)), (3, .long s'.1), (5, .long s'.2.1), (7, .int s'.2.2.1), (8, .long s'.2.2.2.1), (10, .long s'.2.2.2.2.1), (12, .int s'.2.2.2.2.2.1), (13, .int s'.2.2.2.2.2.2.1), (14, .long s'.2.2.2.2.2.2.2.1), (16, .long s'.2.2.2.2.2.2.2.2.1), (18, .long s'.2.2.2.2.2.2.2.2.2.1), (20, .long s'.2.2.2.2.2.2.2.2.2.2.1), (22, .int s'.2.2.2.2.2.2.2.2.2.2.2.1)] [] s'.2.2.2.2.2.2.2.2.2.2.2.2) (hex0 : ∀ s', o = .inr (.inl s') → Go K 263 [] [] s') (hret : ∀ x', o = .inr (.inr x') → Rt K none none x') : Go K 130 [(0, .ref (ad K c0)), (14, .long a14), (16, .long a16), (18, .long a18), (20, .long a20), (23, .long a23)] [] h := by
  unfold s_X8_descend_b130 at hyp
  refine g_aload_n (pc := 130) 0 S dX8_descend_130 rfl ?_
  refine g_lload (pc := 131) 1 S dX8_descend_131 rfl ?_
  refine g_lload (pc := 133) 5 S dX8_descend_133 rfl ?_
  refine g_lmul (pc := 135) S dX8_descend_135 ?_
  refine g_lload (pc := 136) 2 S dX8_descend_136 rfl ?_
  refine g_ladd (pc := 138) S dX8_descend_138 ?_
  refine g_putJ (pc := 139) S dX8_descend_139 fl_X8_39 k0 hyp (fun h9 hyp => ?_)
  refine g_aload_n (pc := 142) 0 S dX8_descend_142 rfl ?_
  refine g_lload (pc := 143) 3 S dX8_descend_143 rfl ?_
  refine g_lload (pc := 145) 5 S dX8_descend_145 rfl ?_
  refine g_lmul (pc := 147) S dX8_descend_147 ?_
  refine g_lload (pc := 148) 4 S dX8_descend_148 rfl ?_
  refine g_ladd (pc := 150) S dX8_descend_150 ?_
  refine g_putJ (pc := 151) S dX8_descend_151 fl_X8_42 k0 hyp (fun h10 hyp => ?_)
  have hyp := Option.some.inj hyp
  subst hyp
  exact g_vret (pc := 154) S (hret h10 rfl) dX8_descend_154
set_option maxRecDepth 100000 in
set_option maxHeartbeats 4000000 in
theorem o_X8_descend_b243 {K : gK} (S : Cx K RX8 cX8_descend 36 1 29) {c0 : Nat} (k0 : kd c0 (10 + 8, 0)) {c1 : Nat} (k1 : kd c1 (10 + 4, 0)) {c2 : Nat} (k2 : kd c2 (10 + 4, 0)) (a3 : Int64) (a5 : Int64) (a7 : Int32) (a8 : Int64) (a10 : Int64) (a12 : Int32) (a14 : Int64) (a16 : Int64) (a18 : Int64) (a20 : Int64) (a22 : Int32) (t0 : Int32) (h : Hp) {o : (Int64 × Int64 × Int32 × Int64 × Int64 × Int32 × Int32 × Int64 × Int64 × Int64 × Int64 × Int32 × Hp) ⊕ ((Hp) ⊕ (Hp))} (hyp : s_X8_descend_b243 c0 c1 c2 a3 a5 a7 a8 a10 a12 a14 a16 a18 a20 a22 t0 h = some o) (hin : ∀ s', o = .inl s' → Go K 57 [(0, .ref (ad K c0)), (3, .long s'.1), (5, .long s'.2.1), (7, .int s'.2.2.1), (8, .long s'.2.2.2.1), (10, .long s'.2.2.2.2.1), (12, .int s'.2.2.2.2.2.1), (13, .int s'.2.2.2.2.2.2.1), (14, .long s'.2.2.2.2.2.2.2.1), (16, .long s'.2.2.2.2.2.2.2.2.1), (18, .long s'.2.2.2.2.2.2.2.2.2.1), (20, .long s'.2.2.2.2.2.2.2.2.2.2.1), (22, .int s'.2.2.2.2.2.2.2.2.2.2.2.1)] [] s'.2.2.2.2.2.2.2.2.2.2.2.2) (hex0 : ∀ s', o = .inr (.inl s') → Go K 263 [] [] s') (hret : ∀ x', o = .inr (.inr x') → Rt K none none x') : Go K 243 [(0, .ref (ad K c0)), (3, .long a3), (5, .long a5), (7, .int a7), (8, .long a8), (10, .long a10), (12, .int a12), (14, .long a14), (16, .long a16), (18, .long a18), (20, .long a20), (22, .int a22)] [.int t0] h := by
  unfold s_X8_descend_b243 at hyp
  refine g_istore (pc := 243) (lv' := [(13, .int t0), (0, .ref (ad K c0)), (3, .long a3), (5, .long a5), (7, .int a7), (8, .long a8), (10, .long a10), (12, .int a12), (14, .long a14), (16, .long a16), (18, .long a18), (20, .long a20), (22, .int a22)]) S dX8_descend_243 (by decide) rfl ?_
  refine g_iload (pc := 245) 4 S dX8_descend_245 rfl ?_
  refine g_istore (pc := 247) (lv' := [(35, .int a7), (13, .int t0), (0, .ref (ad K c0)), (3, .long a3), (5, .long a5), (7, .int a7), (8, .long a8), (10, .long a10), (12, .int a12), (14, .long a14), (16, .long a16), (18, .long a18), (20, .long a20), (22, .int a22)]) S dX8_descend_247 (by decide) rfl ?_
  refine g_iload (pc := 249) 8 S dX8_descend_249 rfl ?_
  refine g_istore (pc := 251) (lv' := [(7, .int a12), (35, .int a7), (13, .int t0), (0, .ref (ad K c0)), (3, .long a3), (5, .long a5), (8, .long a8), (10, .long a10), (12, .int a12), (14, .long a14), (16, .long a16), (18, .long a18), (20, .long a20), (22, .int a22)]) S dX8_descend_251 (by decide) rfl ?_
  refine g_iload (pc := 253) 1 S dX8_descend_253 rfl ?_
  refine g_istore (pc := 255) (lv' := [(12, .int a7), (7, .int a12), (35, .int a7), (13, .int t0), (0, .ref (ad K c0)), (3, .long a3), (5, .long a5), (8, .long a8), (10, .long a10), (14, .long a14), (16, .long a16), (18, .long a18), (20, .long a20), (22, .int a22)]) S dX8_descend_255 (by decide) rfl ?_
  refine g_iinc (pc := 257) (v := (a22 + (1 : Int32))) (lv' := [(22, .int (a22 + (1 : Int32))), (12, .int a7), (7, .int a12), (35, .int a7), (13, .int t0), (0, .ref (ad K c0)), (3, .long a3), (5, .long a5), (8, .long a8), (10, .long a10), (14, .long a14), (16, .long a16), (18, .long a18), (20, .long a20)]) 13 S dX8_descend_257 rfl (by rfl) (by decide) rfl ?_
  refine g_lti (C := fun v22_16 => Go K (257 + 3) [(22, .int v22_16), (12, .int a7), (7, .int a12), (35, .int a7), (13, .int t0), (0, .ref (ad K c0)), (3, .long a3), (5, .long a5), (8, .long a8), (10, .long a10), (14, .long a14), (16, .long a16), (18, .long a18), (20, .long a20)] [] h) hyp (fun v22_16 hyp => ?_)
  refine g_goto (pc := 260) (tgt := 57) S dX8_descend_260 (by decide) ?_
  have hyp := Option.some.inj hyp
  subst hyp
  exact g_sub [5, 6, 7, 2, 8, 9, 1, 4, 10, 11, 12, 13, 0] rfl (hin (a3, a5, a12, a8, a10, a7, t0, a14, a16, a18, a20, v22_16, h) rfl)
set_option maxRecDepth 100000 in
set_option maxHeartbeats 4000000 in
theorem o_X8_descend_b155 {K : gK} (S : Cx K RX8 cX8_descend 36 1 29) {c0 : Nat} (k0 : kd c0 (10 + 8, 0)) {c1 : Nat} (k1 : kd c1 (10 + 4, 0)) {c2 : Nat} (k2 : kd c2 (10 + 4, 0)) (a3 : Int64) (a5 : Int64) (a7 : Int32) (a8 : Int64) (a10 : Int64) (a12 : Int32) (a14 : Int64) (a16 : Int64) (a18 : Int64) (a20 : Int64) (a22 : Int32) (a23 : Int64) (h : Hp) {o : (Int64 × Int64 × Int32 × Int64 × Int64 × Int32 × Int32 × Int64 × Int64 × Int64 × Int64 × Int32 × Hp) ⊕ ((Hp) ⊕ (Hp))} (hyp : s_X8_descend_b155 c0 c1 c2 a3 a5 a7 a8 a10 a12 a14 a16 a18 a20 a22 a23 h = some o) (hin : ∀ s', o = .inl s' → Go K 57 [(0, .ref (ad K c0)), (3, .long s'.1), (5, .long s'.2.1), (7, .int s'.2.2.1), (8, .long s'.2.2.2.1), (10, .long s'.2.2.2.2.1), (12, .int s'.2.2.2.2.2.1), (13, .int s'.2.2.2.2.2.2.1), (14, .long s'.2.2.2.2.2.2.2.1), (16, .long s'.2.2.2.2.2.2.2.2.1), (18, .long s'.2.2.2.2.2.2.2.2.2.1), (20, .long s'.2.2.2.2.2.2.2.2.2.2.1), (22, .int s'.2.2.2.2.2.2.2.2.2.2.2.1)] [] s'.2.2.2.2.2.2.2.2.2.2.2.2) (hex0 : ∀ s', o = .inr (.inl s') → Go K 263 [] [] s') (hret : ∀ x', o = .inr (.inr x') → Rt K none none x') : Go K 155 [(0, .ref (ad K c0)), (3, .long a3), (5, .long a5), (7, .int a7), (8, .long a8), (10, .long a10), (12, .int a12), (14, .long a14), (16, .long a16), (18, .long a18), (20, .long a20), (22, .int a22), (23, .long a23)] [] h := by
  unfold s_X8_descend_b155 at hyp
  refine g_lload (pc := 155) 12 S dX8_descend_155 rfl ?_
  refine g_lconst (pc := 157) (v := (1 : Int64)) S dX8_descend_157 (by decide) ?_
  refine g_lsub (pc := 158) S dX8_descend_158 ?_
  refine g_lti (C := fun v25_11 => Go K 159 [(0, .ref (ad K c0)), (3, .long a3), (5, .long a5), (7, .int a7), (8, .long a8), (10, .long a10), (12, .int a12), (14, .long a14), (16, .long a16), (18, .long a18), (20, .long a20), (22, .int a22), (23, .long a23)] [.long v25_11] h) hyp (fun v25_11 hyp => ?_)
  refine g_lstore (pc := 159) (lv' := [(25, .long v25_11), (0, .ref (ad K c0)), (3, .long a3), (5, .long a5), (7, .int a7), (8, .long a8), (10, .long a10), (12, .int a12), (14, .long a14), (16, .long a16), (18, .long a18), (20, .long a20), (22, .int a22), (23, .long a23)]) S dX8_descend_159 (by decide) rfl ?_
  refine g_lload_n (pc := 161) 2 S dX8_descend_161 rfl ?_
  refine g_lload (pc := 162) 0 S dX8_descend_162 rfl ?_
  refine g_lload (pc := 164) 3 S dX8_descend_164 rfl ?_
  refine g_lmul (pc := 166) S dX8_descend_166 ?_
  refine g_lsub (pc := 167) S dX8_descend_167 ?_
  refine g_lti (C := fun v27_12 => Go K 168 [(25, .long v25_11), (0, .ref (ad K c0)), (3, .long a3), (5, .long a5), (7, .int a7), (8, .long a8), (10, .long a10), (12, .int a12), (14, .long a14), (16, .long a16), (18, .long a18), (20, .long a20), (22, .int a22), (23, .long a23)] [.long v27_12] h) hyp (fun v27_12 hyp => ?_)
  refine g_lstore (pc := 168) (lv' := [(27, .long v27_12), (25, .long v25_11), (0, .ref (ad K c0)), (3, .long a3), (5, .long a5), (7, .int a7), (8, .long a8), (10, .long a10), (12, .int a12), (14, .long a14), (16, .long a16), (18, .long a18), (20, .long a20), (22, .int a22), (23, .long a23)]) S dX8_descend_168 (by decide) rfl ?_
  refine g_lload (pc := 170) 6 S dX8_descend_170 rfl ?_
  refine g_lload (pc := 172) 1 S dX8_descend_172 rfl ?_
  refine g_lload (pc := 174) 7 S dX8_descend_174 rfl ?_
  refine g_lmul (pc := 176) S dX8_descend_176 ?_
  refine g_lsub (pc := 177) S dX8_descend_177 ?_
  refine g_lti (C := fun v29_13 => Go K 178 [(27, .long v27_12), (25, .long v25_11), (0, .ref (ad K c0)), (3, .long a3), (5, .long a5), (7, .int a7), (8, .long a8), (10, .long a10), (12, .int a12), (14, .long a14), (16, .long a16), (18, .long a18), (20, .long a20), (22, .int a22), (23, .long a23)] [.long v29_13] h) hyp (fun v29_13 hyp => ?_)
  refine g_lstore (pc := 178) (lv' := [(29, .long v29_13), (27, .long v27_12), (25, .long v25_11), (0, .ref (ad K c0)), (3, .long a3), (5, .long a5), (7, .int a7), (8, .long a8), (10, .long a10), (12, .int a12), (14, .long a14), (16, .long a16), (18, .long a18), (20, .long a20), (22, .int a22), (23, .long a23)]) S dX8_descend_178 (by decide) rfl ?_
  refine g_lload (pc := 180) 10 S dX8_descend_180 rfl ?_
  refine g_lstore (pc := 182) (lv' := [(31, .long a14), (29, .long v29_13), (27, .long v27_12), (25, .long v25_11), (0, .ref (ad K c0)), (3, .long a3), (5, .long a5), (7, .int a7), (8, .long a8), (10, .long a10), (12, .int a12), (14, .long a14), (16, .long a16), (18, .long a18), (20, .long a20), (22, .int a22), (23, .long a23)]) S dX8_descend_182 (by decide) rfl ?_
  refine g_lload (pc := 184) 13 S dX8_descend_184 rfl ?_
  refine g_lstore (pc := 186) (lv' := [(33, .long a18), (31, .long a14), (29, .long v29_13), (27, .long v27_12), (25, .long v25_11), (0, .ref (ad K c0)), (3, .long a3), (5, .long a5), (7, .int a7), (8, .long a8), (10, .long a10), (12, .int a12), (14, .long a14), (16, .long a16), (18, .long a18), (20, .long a20), (22, .int a22), (23, .long a23)]) S dX8_descend_186 (by decide) rfl ?_
  refine g_lload (pc := 188) 12 S dX8_descend_188 rfl ?_
  refine g_lload (pc := 190) 4 S dX8_descend_190 rfl ?_
  refine g_lmul (pc := 192) S dX8_descend_192 ?_
  refine g_lload (pc := 193) 13 S dX8_descend_193 rfl ?_
  refine g_ladd (pc := 195) S dX8_descend_195 ?_
  refine g_lti (C := fun v14_14 => Go K 196 [(33, .long a18), (31, .long a14), (29, .long v29_13), (27, .long v27_12), (25, .long v25_11), (0, .ref (ad K c0)), (3, .long a3), (5, .long a5), (7, .int a7), (8, .long a8), (10, .long a10), (12, .int a12), (14, .long a14), (16, .long a16), (18, .long a18), (20, .long a20), (22, .int a22), (23, .long a23)] [.long v14_14] h) hyp (fun v14_14 hyp => ?_)
  refine g_lstore (pc := 196) (lv' := [(14, .long v14_14), (33, .long a18), (31, .long a14), (29, .long v29_13), (27, .long v27_12), (25, .long v25_11), (0, .ref (ad K c0)), (3, .long a3), (5, .long a5), (7, .int a7), (8, .long a8), (10, .long a10), (12, .int a12), (16, .long a16), (18, .long a18), (20, .long a20), (22, .int a22), (23, .long a23)]) S dX8_descend_196 (by decide) rfl ?_
  refine g_lload (pc := 198) 2 S dX8_descend_198 rfl ?_
  refine g_lstore (pc := 200) (lv' := [(16, .long a14), (14, .long v14_14), (33, .long a18), (31, .long a14), (29, .long v29_13), (27, .long v27_12), (25, .long v25_11), (0, .ref (ad K c0)), (3, .long a3), (5, .long a5), (7, .int a7), (8, .long a8), (10, .long a10), (12, .int a12), (18, .long a18), (20, .long a20), (22, .int a22), (23, .long a23)]) S dX8_descend_200 (by decide) rfl ?_
  refine g_lload (pc := 202) 14 S dX8_descend_202 rfl ?_
  refine g_lload (pc := 204) 6 S dX8_descend_204 rfl ?_
  refine g_lmul (pc := 206) S dX8_descend_206 ?_
  refine g_lload (pc := 207) 15 S dX8_descend_207 rfl ?_
  refine g_ladd (pc := 209) S dX8_descend_209 ?_
  refine g_lti (C := fun v18_15 => Go K 210 [(16, .long a14), (14, .long v14_14), (33, .long a18), (31, .long a14), (29, .long v29_13), (27, .long v27_12), (25, .long v25_11), (0, .ref (ad K c0)), (3, .long a3), (5, .long a5), (7, .int a7), (8, .long a8), (10, .long a10), (12, .int a12), (18, .long a18), (20, .long a20), (22, .int a22), (23, .long a23)] [.long v18_15] h) hyp (fun v18_15 hyp => ?_)
  refine g_lstore (pc := 210) (lv' := [(18, .long v18_15), (16, .long a14), (14, .long v14_14), (33, .long a18), (31, .long a14), (29, .long v29_13), (27, .long v27_12), (25, .long v25_11), (0, .ref (ad K c0)), (3, .long a3), (5, .long a5), (7, .int a7), (8, .long a8), (10, .long a10), (12, .int a12), (20, .long a20), (22, .int a22), (23, .long a23)]) S dX8_descend_210 (by decide) rfl ?_
  refine g_lload (pc := 212) 3 S dX8_descend_212 rfl ?_
  refine g_lstore (pc := 214) (lv' := [(20, .long a18), (18, .long v18_15), (16, .long a14), (14, .long v14_14), (33, .long a18), (31, .long a14), (29, .long v29_13), (27, .long v27_12), (25, .long v25_11), (0, .ref (ad K c0)), (3, .long a3), (5, .long a5), (7, .int a7), (8, .long a8), (10, .long a10), (12, .int a12), (22, .int a22), (23, .long a23)]) S dX8_descend_214 (by decide) rfl ?_
  refine g_lload (pc := 216) 14 S dX8_descend_216 rfl ?_
  refine g_lstore_n (pc := 218) (lv' := [(3, .long a10), (20, .long a18), (18, .long v18_15), (16, .long a14), (14, .long v14_14), (33, .long a18), (31, .long a14), (29, .long v29_13), (27, .long v27_12), (25, .long v25_11), (0, .ref (ad K c0)), (5, .long a5), (7, .int a7), (8, .long a8), (10, .long a10), (12, .int a12), (22, .int a22), (23, .long a23)]) S dX8_descend_218 rfl (by decide) rfl ?_
  refine g_lload (pc := 219) 11 S dX8_descend_219 rfl ?_
  refine g_lstore (pc := 221) (lv' := [(8, .long a5), (3, .long a10), (20, .long a18), (18, .long v18_15), (16, .long a14), (14, .long v14_14), (33, .long a18), (31, .long a14), (29, .long v29_13), (27, .long v27_12), (25, .long v25_11), (0, .ref (ad K c0)), (5, .long a5), (7, .int a7), (10, .long a10), (12, .int a12), (22, .int a22), (23, .long a23)]) S dX8_descend_221 (by decide) rfl ?_
  refine g_lload (pc := 223) 8 S dX8_descend_223 rfl ?_
  refine g_lstore (pc := 225) (lv' := [(5, .long v29_13), (8, .long a5), (3, .long a10), (20, .long a18), (18, .long v18_15), (16, .long a14), (14, .long v14_14), (33, .long a18), (31, .long a14), (29, .long v29_13), (27, .long v27_12), (25, .long v25_11), (0, .ref (ad K c0)), (7, .int a7), (10, .long a10), (12, .int a12), (22, .int a22), (23, .long a23)]) S dX8_descend_225 (by decide) rfl ?_
  refine g_lload (pc := 227) 10 S dX8_descend_227 rfl ?_
  refine g_lstore (pc := 229) (lv' := [(10, .long v27_12), (5, .long v29_13), (8, .long a5), (3, .long a10), (20, .long a18), (18, .long v18_15), (16, .long a14), (14, .long v14_14), (33, .long a18), (31, .long a14), (29, .long v29_13), (27, .long v27_12), (25, .long v25_11), (0, .ref (ad K c0)), (7, .int a7), (12, .int a12), (22, .int a22), (23, .long a23)]) S dX8_descend_229 (by decide) rfl ?_
  refine g_lload (pc := 231) 11 S dX8_descend_231 rfl ?_
  refine g_lconst (pc := 233) (v := (0 : Int64)) S dX8_descend_233 (by decide) ?_
  refine g_lcmp_le (pc := 234) (tgt := 242) S dX8_descend_234 dX8_descend_235 (by decide) hyp (fun hyp => ?_) (fun hyp => ?_)
  · refine g_iconst (pc := 238) (v := (1 : Int32)) S dX8_descend_238 (by decide) ?_
    refine g_goto (pc := 239) (tgt := 243) S dX8_descend_239 (by decide) ?_
    exact g_sub [13, 3, 1, 14, 2, 0, 15, 7, 6, 5, 4, 16] rfl (o_X8_descend_b243 S k0 k1 k2 a10 v29_13 a7 a5 v27_12 a12 v14_14 a14 v18_15 a18 a22 (1 : Int32) h hyp hin hex0 hret)
  · refine g_iconst (pc := 242) (v := (0 : Int32)) S dX8_descend_242 (by decide) ?_
    exact g_sub [13, 3, 1, 14, 2, 0, 15, 7, 6, 5, 4, 16] rfl (o_X8_descend_b243 S k0 k1 k2 a10 v29_13 a7 a5 v27_12 a12 v14_14 a14 v18_15 a18 a22 (0 : Int32) h hyp hin hex0 hret)
set_option maxRecDepth 100000 in
set_option maxHeartbeats 4000000 in
theorem o_X8_descend_b96 {K : gK} (S : Cx K RX8 cX8_descend 36 1 29) {c0 : Nat} (k0 : kd c0 (10 + 8, 0)) {c1 : Nat} (k1 : kd c1 (10 + 4, 0)) {c2 : Nat} (k2 : kd c2 (10 + 4, 0)) (a3 : Int64) (a5 : Int64) (a7 : Int32) (a8 : Int64) (a10 : Int64) (a12 : Int32) (a13 : Int32) (a14 : Int64) (a16 : Int64) (a18 : Int64) (a20 : Int64) (a22 : Int32) (t0 : Int64) (h : Hp) {o : (Int64 × Int64 × Int32 × Int64 × Int64 × Int32 × Int32 × Int64 × Int64 × Int64 × Int64 × Int32 × Hp) ⊕ ((Hp) ⊕ (Hp))} (hyp : s_X8_descend_b96 c0 c1 c2 a3 a5 a7 a8 a10 a12 a13 a14 a16 a18 a20 a22 t0 h = some o) (hin : ∀ s', o = .inl s' → Go K 57 [(0, .ref (ad K c0)), (3, .long s'.1), (5, .long s'.2.1), (7, .int s'.2.2.1), (8, .long s'.2.2.2.1), (10, .long s'.2.2.2.2.1), (12, .int s'.2.2.2.2.2.1), (13, .int s'.2.2.2.2.2.2.1), (14, .long s'.2.2.2.2.2.2.2.1), (16, .long s'.2.2.2.2.2.2.2.2.1), (18, .long s'.2.2.2.2.2.2.2.2.2.1), (20, .long s'.2.2.2.2.2.2.2.2.2.2.1), (22, .int s'.2.2.2.2.2.2.2.2.2.2.2.1)] [] s'.2.2.2.2.2.2.2.2.2.2.2.2) (hex0 : ∀ s', o = .inr (.inl s') → Go K 263 [] [] s') (hret : ∀ x', o = .inr (.inr x') → Rt K none none x') : Go K 96 [(0, .ref (ad K c0)), (3, .long a3), (5, .long a5), (7, .int a7), (8, .long a8), (10, .long a10), (12, .int a12), (13, .int a13), (14, .long a14), (16, .long a16), (18, .long a18), (20, .long a20), (22, .int a22)] [.long t0] h := by
  unfold s_X8_descend_b96 at hyp
  refine g_lstore (pc := 96) (lv' := [(23, .long t0), (0, .ref (ad K c0)), (3, .long a3), (5, .long a5), (7, .int a7), (8, .long a8), (10, .long a10), (12, .int a12), (13, .int a13), (14, .long a14), (16, .long a16), (18, .long a18), (20, .long a20), (22, .int a22)]) S dX8_descend_96 (by decide) rfl ?_
  refine g_iload (pc := 98) 8 S dX8_descend_98 rfl ?_
  refine g_if_eq (pc := 100) (tgt := 130) S dX8_descend_100 (by decide) hyp (fun hyp => ?_) (fun hyp => ?_)
  · exact g_sub [1, 9, 10, 11, 12, 0] rfl (o_X8_descend_b130 S k0 k1 k2 a14 a16 a18 a20 t0 h hyp hin hex0 hret)
  · refine g_lload (pc := 103) 0 S dX8_descend_103 rfl ?_
    refine g_lload (pc := 105) 6 S dX8_descend_105 rfl ?_
    refine g_lmul (pc := 107) S dX8_descend_107 ?_
    refine g_lload (pc := 108) 5 S dX8_descend_108 rfl ?_
    refine g_lcmp_lt (pc := 110) (tgt := 130) S dX8_descend_110 dX8_descend_111 (by decide) hyp (fun hyp => ?_) (fun hyp => ?_)
    · exact g_sub [1, 9, 10, 11, 12, 0] rfl (o_X8_descend_b130 S k0 k1 k2 a14 a16 a18 a20 t0 h hyp hin hex0 hret)
    · refine g_lload (pc := 114) 0 S dX8_descend_114 rfl ?_
      refine g_lload (pc := 116) 6 S dX8_descend_116 rfl ?_
      refine g_lmul (pc := 118) S dX8_descend_118 ?_
      refine g_lload (pc := 119) 5 S dX8_descend_119 rfl ?_
      refine g_lcmp_ne (pc := 121) (tgt := 155) S dX8_descend_121 dX8_descend_122 (by decide) hyp (fun hyp => ?_) (fun hyp => ?_)
      · refine g_iload (pc := 125) 7 S dX8_descend_125 rfl ?_
        refine g_if_ne (pc := 127) (tgt := 155) S dX8_descend_127 (by decide) hyp (fun hyp => ?_) (fun hyp => ?_)
        · exact g_sub [1, 9, 10, 11, 12, 0] rfl (o_X8_descend_b130 S k0 k1 k2 a14 a16 a18 a20 t0 h hyp hin hex0 hret)
        · exact g_sub [1, 2, 3, 4, 5, 6, 7, 9, 10, 11, 12, 13, 0] rfl (o_X8_descend_b155 S k0 k1 k2 a3 a5 a7 a8 a10 a12 a14 a16 a18 a20 a22 t0 h hyp hin hex0 hret)
      · exact g_sub [1, 2, 3, 4, 5, 6, 7, 9, 10, 11, 12, 13, 0] rfl (o_X8_descend_b155 S k0 k1 k2 a3 a5 a7 a8 a10 a12 a14 a16 a18 a20 a22 t0 h hyp hin hex0 hret)
set_option maxRecDepth 100000 in
set_option maxHeartbeats 4000000 in
theorem o_X8_descend_l57 {K : gK} (S : Cx K RX8 cX8_descend 36 1 29) {c0 : Nat} (k0 : kd c0 (10 + 8, 0)) {c1 : Nat} (k1 : kd c1 (10 + 4, 0)) {c2 : Nat} (k2 : kd c2 (10 + 4, 0)) (a3 : Int64) (a5 : Int64) (a7 : Int32) (a8 : Int64) (a10 : Int64) (a12 : Int32) (a13 : Int32) (a14 : Int64) (a16 : Int64) (a18 : Int64) (a20 : Int64) (a22 : Int32) (h : Hp) {o : (Int64 × Int64 × Int32 × Int64 × Int64 × Int32 × Int32 × Int64 × Int64 × Int64 × Int64 × Int32 × Hp) ⊕ ((Hp) ⊕ (Hp))} (hyp : s_X8_descend_l57 c0 c1 c2 a3 a5 a7 a8 a10 a12 a13 a14 a16 a18 a20 a22 h = some o) (hin : ∀ s', o = .inl s' → Go K 57 [(0, .ref (ad K c0)), (3, .long s'.1), (5, .long s'.2.1), (7, .int s'.2.2.1), (8, .long s'.2.2.2.1), (10, .long s'.2.2.2.2.1), (12, .int s'.2.2.2.2.2.1), (13, .int s'.2.2.2.2.2.2.1), (14, .long s'.2.2.2.2.2.2.2.1), (16, .long s'.2.2.2.2.2.2.2.2.1), (18, .long s'.2.2.2.2.2.2.2.2.2.1), (20, .long s'.2.2.2.2.2.2.2.2.2.2.1), (22, .int s'.2.2.2.2.2.2.2.2.2.2.2.1)] [] s'.2.2.2.2.2.2.2.2.2.2.2.2) (hex0 : ∀ s', o = .inr (.inl s') → Go K 263 [] [] s') (hret : ∀ x', o = .inr (.inr x') → Rt K none none x') : Go K 57 [(0, .ref (ad K c0)), (3, .long a3), (5, .long a5), (7, .int a7), (8, .long a8), (10, .long a10), (12, .int a12), (13, .int a13), (14, .long a14), (16, .long a16), (18, .long a18), (20, .long a20), (22, .int a22)] [] h := by
  unfold s_X8_descend_l57 at hyp
  refine g_iload (pc := 57) 12 S dX8_descend_57 rfl ?_
  refine g_sipush (pc := 59) (v := (200 : Int32)) S dX8_descend_59 (by decide) ?_
  refine g_icmp_ge (pc := 62) (tgt := 263) S dX8_descend_62 (by decide) hyp (fun hyp => ?_) (fun hyp => ?_)
  · refine g_lload (pc := 65) 2 S dX8_descend_65 rfl ?_
    refine g_lconst (pc := 67) (v := (0 : Int64)) S dX8_descend_67 (by decide) ?_
    refine g_lcmp_le (pc := 68) (tgt := 263) S dX8_descend_68 dX8_descend_69 (by decide) hyp (fun hyp => ?_) (fun hyp => ?_)
    · refine g_iload (pc := 72) 3 S dX8_descend_72 rfl ?_
      refine g_if_eq (pc := 74) (tgt := 88) S dX8_descend_74 (by decide) hyp (fun hyp => ?_) (fun hyp => ?_)
      · refine g_lload_n (pc := 88) 1 S dX8_descend_88 rfl ?_
        refine g_lneg (pc := 89) S dX8_descend_89 ?_
        refine g_lload (pc := 90) 2 S dX8_descend_90 rfl ?_
        refine g_bind hyp (fun y8 hy8 hyp => ?_)
        refine g_callS (pc := 92) (As := [.long (-a3), .long a5]) (rest := []) S dX8_descend_92 tw_744 tw_745 mw_J9_floorDiv_f86c9 (m_J9_floorDiv_f86c9  (-a3) a5 h hy8) rfl rfl (Nat.le_of_ble_eq_true rfl) (Nat.le_of_ble_eq_true rfl) (Nat.le_of_ble_eq_true rfl) ?_
        refine g_lneg (pc := 95) S dX8_descend_95 ?_
        exact g_sub [0, 1, 2, 3, 4, 5, 6, 7, 8, 9, 10, 11, 12] rfl (o_X8_descend_b96 S k0 k1 k2 a3 a5 a7 a8 a10 a12 a13 a14 a16 a18 a20 a22 (-y8) h hyp hin hex0 hret)
      · refine g_lload_n (pc := 77) 1 S dX8_descend_77 rfl ?_
        refine g_lload (pc := 78) 2 S dX8_descend_78 rfl ?_
        refine g_bind hyp (fun y17 hy17 hyp => ?_)
        refine g_callS (pc := 80) (As := [.long a3, .long a5]) (rest := []) S dX8_descend_80 tw_744 tw_745 mw_J9_floorDiv_f86c9 (m_J9_floorDiv_f86c9  a3 a5 h hy17) rfl rfl (Nat.le_of_ble_eq_true rfl) (Nat.le_of_ble_eq_true rfl) (Nat.le_of_ble_eq_true rfl) ?_
        refine g_lconst (pc := 83) (v := (1 : Int64)) S dX8_descend_83 (by decide) ?_
        refine g_ladd (pc := 84) S dX8_descend_84 ?_
        refine g_goto (pc := 85) (tgt := 96) S dX8_descend_85 (by decide) ?_
        exact g_sub [0, 1, 2, 3, 4, 5, 6, 7, 8, 9, 10, 11, 12] rfl (o_X8_descend_b96 S k0 k1 k2 a3 a5 a7 a8 a10 a12 a13 a14 a16 a18 a20 a22 (y17 + (1 : Int64)) h hyp hin hex0 hret)
    · have hyp := Option.some.inj hyp
      subst hyp
      exact g_sub [] rfl (hex0 h rfl)
  · have hyp := Option.some.inj hyp
    subst hyp
    exact g_sub [] rfl (hex0 h rfl)
set_option maxRecDepth 100000 in
set_option maxHeartbeats 4000000 in
theorem o_X8_descend {K : gK} (S : Cx K RX8 cX8_descend 36 1 29) {c0 : Nat} (k0 : kd c0 (10 + 8, 0)) {c1 : Nat} (k1 : kd c1 (10 + 4, 0)) {c2 : Nat} (k2 : kd c2 (10 + 4, 0))  (h : Hp) {o : Hp} (hyp : s_X8_descend c0 c1 c2  h = some o) (F : Rt K none none o) : Go K 0 [(0, .ref (ad K c0)), (1, .ref (ad K c1)), (2, .ref (ad K c2))] [] h := by
  unfold s_X8_descend at hyp
  refine g_aload_n (pc := 0) 1 S dX8_descend_0 rfl ?_
  refine g_getJ (pc := 1) S dX8_descend_1 fl_X8_90 k1 ?_
  refine g_lneg (pc := 4) S dX8_descend_4 ?_
  refine g_lti (C := fun v3_1 => Go K 5 [(0, .ref (ad K c0)), (1, .ref (ad K c1)), (2, .ref (ad K c2))] [.long v3_1] h) hyp (fun v3_1 hyp => ?_)
  refine g_lstore_n (pc := 5) (lv' := [(3, .long v3_1), (0, .ref (ad K c0)), (1, .ref (ad K c1)), (2, .ref (ad K c2))]) S dX8_descend_5 rfl (by decide) rfl ?_
  refine g_aload_n (pc := 6) 2 S dX8_descend_6 rfl ?_
  refine g_getJ (pc := 7) S dX8_descend_7 fl_X8_76 k1 ?_
  refine g_lti (C := fun v5_2 => Go K 10 [(3, .long v3_1), (0, .ref (ad K c0)), (1, .ref (ad K c1)), (2, .ref (ad K c2))] [.long v5_2] h) hyp (fun v5_2 hyp => ?_)
  refine g_lstore (pc := 10) (lv' := [(5, .long v5_2), (3, .long v3_1), (0, .ref (ad K c0)), (1, .ref (ad K c1)), (2, .ref (ad K c2))]) S dX8_descend_10 (by decide) rfl ?_
  refine g_aload_n (pc := 12) 3 S dX8_descend_12 rfl ?_
  refine g_getI (pc := 13) S dX8_descend_13 fl_X8_92 k1 ?_
  refine g_lti (C := fun v7_3 => Go K 16 [(5, .long v5_2), (3, .long v3_1), (0, .ref (ad K c0)), (1, .ref (ad K c1)), (2, .ref (ad K c2))] [.int v7_3] h) hyp (fun v7_3 hyp => ?_)
  refine g_istore (pc := 16) (lv' := [(7, .int v7_3), (5, .long v5_2), (3, .long v3_1), (0, .ref (ad K c0)), (1, .ref (ad K c1)), (2, .ref (ad K c2))]) S dX8_descend_16 (by decide) rfl ?_
  refine g_aload_n (pc := 18) 5 S dX8_descend_18 rfl ?_
  refine g_getJ (pc := 19) S dX8_descend_19 fl_X8_90 k2 ?_
  refine g_lti (C := fun v8_4 => Go K 22 [(7, .int v7_3), (5, .long v5_2), (3, .long v3_1), (0, .ref (ad K c0)), (1, .ref (ad K c1)), (2, .ref (ad K c2))] [.long v8_4] h) hyp (fun v8_4 hyp => ?_)
  refine g_lstore (pc := 22) (lv' := [(8, .long v8_4), (7, .int v7_3), (5, .long v5_2), (3, .long v3_1), (0, .ref (ad K c0)), (1, .ref (ad K c1)), (2, .ref (ad K c2))]) S dX8_descend_22 (by decide) rfl ?_
  refine g_aload_n (pc := 24) 6 S dX8_descend_24 rfl ?_
  refine g_getJ (pc := 25) S dX8_descend_25 fl_X8_76 k2 ?_
  refine g_lti (C := fun v10_5 => Go K 28 [(8, .long v8_4), (7, .int v7_3), (5, .long v5_2), (3, .long v3_1), (0, .ref (ad K c0)), (1, .ref (ad K c1)), (2, .ref (ad K c2))] [.long v10_5] h) hyp (fun v10_5 hyp => ?_)
  refine g_lstore (pc := 28) (lv' := [(10, .long v10_5), (8, .long v8_4), (7, .int v7_3), (5, .long v5_2), (3, .long v3_1), (0, .ref (ad K c0)), (1, .ref (ad K c1)), (2, .ref (ad K c2))]) S dX8_descend_28 (by decide) rfl ?_
  refine g_aload_n (pc := 30) 7 S dX8_descend_30 rfl ?_
  refine g_getI (pc := 31) S dX8_descend_31 fl_X8_92 k2 ?_
  refine g_lti (C := fun v12_6 => Go K 34 [(10, .long v10_5), (8, .long v8_4), (7, .int v7_3), (5, .long v5_2), (3, .long v3_1), (0, .ref (ad K c0)), (1, .ref (ad K c1)), (2, .ref (ad K c2))] [.int v12_6] h) hyp (fun v12_6 hyp => ?_)
  refine g_istore (pc := 34) (lv' := [(12, .int v12_6), (10, .long v10_5), (8, .long v8_4), (7, .int v7_3), (5, .long v5_2), (3, .long v3_1), (0, .ref (ad K c0)), (1, .ref (ad K c1)), (2, .ref (ad K c2))]) S dX8_descend_34 (by decide) rfl ?_
  refine g_aload_n (pc := 36) 8 S dX8_descend_36 rfl ?_
  refine g_getI (pc := 37) S dX8_descend_37 fl_X8_86 k2 ?_
  refine g_lti (C := fun v13_7 => Go K 40 [(12, .int v12_6), (10, .long v10_5), (8, .long v8_4), (7, .int v7_3), (5, .long v5_2), (3, .long v3_1), (0, .ref (ad K c0)), (1, .ref (ad K c1)), (2, .ref (ad K c2))] [.int v13_7] h) hyp (fun v13_7 hyp => ?_)
  refine g_istore (pc := 40) (lv' := [(13, .int v13_7), (12, .int v12_6), (10, .long v10_5), (8, .long v8_4), (7, .int v7_3), (5, .long v5_2), (3, .long v3_1), (0, .ref (ad K c0)), (1, .ref (ad K c1)), (2, .ref (ad K c2))]) S dX8_descend_40 (by decide) rfl ?_
  refine g_lconst (pc := 42) (v := (1 : Int64)) S dX8_descend_42 (by decide) ?_
  refine g_lstore (pc := 43) (lv' := [(14, .long (1 : Int64)), (13, .int v13_7), (12, .int v12_6), (10, .long v10_5), (8, .long v8_4), (7, .int v7_3), (5, .long v5_2), (3, .long v3_1), (0, .ref (ad K c0)), (1, .ref (ad K c1)), (2, .ref (ad K c2))]) S dX8_descend_43 (by decide) rfl ?_
  refine g_lconst (pc := 45) (v := (0 : Int64)) S dX8_descend_45 (by decide) ?_
  refine g_lstore (pc := 46) (lv' := [(16, .long (0 : Int64)), (14, .long (1 : Int64)), (13, .int v13_7), (12, .int v12_6), (10, .long v10_5), (8, .long v8_4), (7, .int v7_3), (5, .long v5_2), (3, .long v3_1), (0, .ref (ad K c0)), (1, .ref (ad K c1)), (2, .ref (ad K c2))]) S dX8_descend_46 (by decide) rfl ?_
  refine g_lconst (pc := 48) (v := (0 : Int64)) S dX8_descend_48 (by decide) ?_
  refine g_lstore (pc := 49) (lv' := [(18, .long (0 : Int64)), (16, .long (0 : Int64)), (14, .long (1 : Int64)), (13, .int v13_7), (12, .int v12_6), (10, .long v10_5), (8, .long v8_4), (7, .int v7_3), (5, .long v5_2), (3, .long v3_1), (0, .ref (ad K c0)), (1, .ref (ad K c1)), (2, .ref (ad K c2))]) S dX8_descend_49 (by decide) rfl ?_
  refine g_lconst (pc := 51) (v := (1 : Int64)) S dX8_descend_51 (by decide) ?_
  refine g_lstore (pc := 52) (lv' := [(20, .long (1 : Int64)), (18, .long (0 : Int64)), (16, .long (0 : Int64)), (14, .long (1 : Int64)), (13, .int v13_7), (12, .int v12_6), (10, .long v10_5), (8, .long v8_4), (7, .int v7_3), (5, .long v5_2), (3, .long v3_1), (0, .ref (ad K c0)), (1, .ref (ad K c1)), (2, .ref (ad K c2))]) S dX8_descend_52 (by decide) rfl ?_
  refine g_iconst (pc := 54) (v := (0 : Int32)) S dX8_descend_54 (by decide) ?_
  refine g_istore (pc := 55) (lv' := [(22, .int (0 : Int32)), (20, .long (1 : Int64)), (18, .long (0 : Int64)), (16, .long (0 : Int64)), (14, .long (1 : Int64)), (13, .int v13_7), (12, .int v12_6), (10, .long v10_5), (8, .long v8_4), (7, .int v7_3), (5, .long v5_2), (3, .long v3_1), (0, .ref (ad K c0)), (1, .ref (ad K c1)), (2, .ref (ad K c2))]) S dX8_descend_55 (by decide) rfl ?_
  refine g_bind hyp (fun e18 he18 hyp => ?_)
  refine g_sub [12, 11, 10, 9, 8, 7, 6, 5, 4, 3, 2, 1, 0] rfl (g_loop (f := fun s : Int64 × Int64 × Int32 × Int64 × Int64 × Int32 × Int32 × Int64 × Int64 × Int64 × Int64 × Int32 × Hp => s_X8_descend_l57 c0 c1 c2 s.1 s.2.1 s.2.2.1 s.2.2.2.1 s.2.2.2.2.1 s.2.2.2.2.2.1 s.2.2.2.2.2.2.1 s.2.2.2.2.2.2.2.1 s.2.2.2.2.2.2.2.2.1 s.2.2.2.2.2.2.2.2.2.1 s.2.2.2.2.2.2.2.2.2.2.1 s.2.2.2.2.2.2.2.2.2.2.2.1 s.2.2.2.2.2.2.2.2.2.2.2.2) (ρ := (Hp) ⊕ (Hp)) (Hd := fun s : Int64 × Int64 × Int32 × Int64 × Int64 × Int32 × Int32 × Int64 × Int64 × Int64 × Int64 × Int32 × Hp => Go K 57 [(0, .ref (ad K c0)), (3, .long s.1), (5, .long s.2.1), (7, .int s.2.2.1), (8, .long s.2.2.2.1), (10, .long s.2.2.2.2.1), (12, .int s.2.2.2.2.2.1), (13, .int s.2.2.2.2.2.2.1), (14, .long s.2.2.2.2.2.2.2.1), (16, .long s.2.2.2.2.2.2.2.2.1), (18, .long s.2.2.2.2.2.2.2.2.2.1), (20, .long s.2.2.2.2.2.2.2.2.2.2.1), (22, .int s.2.2.2.2.2.2.2.2.2.2.2.1)] [] s.2.2.2.2.2.2.2.2.2.2.2.2) (Ex := fun e18 => (∀ t, e18 = .inl t → Go K 263 [] [] t) ∧ (∀ t, e18 = .inr t → Rt K none none t)) (fun s o h1 h2 h3 => o_X8_descend_l57 S k0 k1 k2 s.1 s.2.1 s.2.2.1 s.2.2.2.1 s.2.2.2.2.1 s.2.2.2.2.2.1 s.2.2.2.2.2.2.1 s.2.2.2.2.2.2.2.1 s.2.2.2.2.2.2.2.2.1 s.2.2.2.2.2.2.2.2.2.1 s.2.2.2.2.2.2.2.2.2.2.1 s.2.2.2.2.2.2.2.2.2.2.2.1 s.2.2.2.2.2.2.2.2.2.2.2.2 h1 h2 (fun t q => (h3 _ q).1 t rfl) (fun t q => (h3 _ q).2 t rfl)) FUEL _ e18 he18 ?_)
  refine ⟨?_, ?_⟩
  · intro t19 q
    subst q
    try dsimp only [Sum.elim] at hyp
    have hyp := Option.some.inj hyp
    subst hyp
    exact g_vret (pc := 263) S F dX8_descend_263
  · intro t20 q
    subst q
    try dsimp only [Sum.elim] at hyp
    have hyp := Option.some.inj hyp
    subst hyp
    exact F
theorem m_X8_descend {l : Launch} {D : va_G} {cT : Nat → ClassId} {aD : Nat → Nat} {c0 : Nat} (k0 : kd c0 (10 + 8, 0)) {c1 : Nat} (k1 : kd c1 (10 + 4, 0)) {c2 : Nat} (k2 : kd c2 (10 + 4, 0))  (h : Hp) {o : Hp} (hyp : s_X8_descend c0 c1 c2  h = some o) : Ok l D cT aD yX8_descend cX8_descend 36 none 1 29 [.ref (aD c0), .ref (aD c1), .ref (aD c2)] h none o :=
  Ok.of (by decide +kernel) rfl (Nat.le_of_ble_eq_true rfl) (fun K e1 e2 e3 e4 S F => by subst e1; exact o_X8_descend S k0 k1 k2  h hyp F)
-- BoundProofs$Sampler pick ()V
noncomputable def s_X8_pick_b21 (c0 : Nat)  (h : Hp) : Option (Hp) :=
  (s_X8_reachesZero (c0 + 9)  h).bind fun y2 =>
  if y2 = 0 then ((s_X8_descend c0 (c0 + 9) (c0 + 10)  h).bind fun y3 =>
  lt (sJ y3 c0 5 (-(y3.2 c0 5))) fun h4 =>
  some h4)
  else ((s_X8_descend c0 (c0 + 10) (c0 + 9)  h).bind fun y5 =>
  some y5)
noncomputable def s_X8_pick (c0 : Nat)  (h : Hp) : Option (Hp) :=
  (s_X8_reachesZero (c0 + 9)  h).bind fun y1 =>
  if y1 = 0 then (s_X8_pick_b21 c0  h)
  else ((s_X8_reachesZero (c0 + 10)  h).bind fun y6 =>
  if y6 = 0 then (s_X8_pick_b21 c0  h)
  else (some h))
set_option maxRecDepth 100000 in
set_option maxHeartbeats 4000000 in
theorem o_X8_pick_b21 {K : gK} (S : Cx K RX8 cX8_pick 1 2 88) {c0 : Nat} (k0 : kd c0 (10 + 8, 0))  (h : Hp) {o : Hp} (hyp : s_X8_pick_b21 c0  h = some o) (F : Rt K none none o) : Go K 21 [(0, .ref (ad K c0))] [] h := by
  unfold s_X8_pick_b21 at hyp
  refine g_aload_n (pc := 21) 0 S dX8_pick_21 rfl ?_
  refine g_getR (pc := 22) S dX8_pick_22 fl_X8_32 k0 ?_
  refine g_bind hyp (fun y2 hy2 hyp => ?_)
  refine g_callS (pc := 25) (As := [.ref (ad K (c0 + 9))]) (rest := []) S dX8_pick_25 tw_738 tw_739 mw_X8_reachesZero (m_X8_reachesZero (kf_8_9 k0)  h hy2) rfl rfl (Nat.le_of_ble_eq_true rfl) (Nat.le_of_ble_eq_true rfl) (Nat.le_of_ble_eq_true rfl) ?_
  refine g_if_eq (pc := 28) (tgt := 46) S dX8_pick_28 (by decide) hyp (fun hyp => ?_) (fun hyp => ?_)
  · refine g_aload_n (pc := 46) 0 S dX8_pick_46 rfl ?_
    refine g_aload_n (pc := 47) 0 S dX8_pick_47 rfl ?_
    refine g_getR (pc := 48) S dX8_pick_48 fl_X8_32 k0 ?_
    refine g_aload_n (pc := 51) 0 S dX8_pick_51 rfl ?_
    refine g_getR (pc := 52) S dX8_pick_52 fl_X8_36 k0 ?_
    refine g_bind hyp (fun y3 hy3 hyp => ?_)
    refine g_callV (pc := 55) (As := [.ref (ad K (c0 + 9)), .ref (ad K (c0 + 10))]) (rest := []) S dX8_pick_55 k0 rfl tw_741 tw_742 tw_24 mw_X8_descend (m_X8_descend k0 (kf_8_9 k0) (kf_8_10 k0)  h hy3) rfl rfl (Nat.le_of_ble_eq_true rfl) (Nat.le_of_ble_eq_true rfl) (Nat.le_of_ble_eq_true rfl) ?_
    refine g_aload_n (pc := 58) 0 S dX8_pick_58 rfl ?_
    refine g_aload_n (pc := 59) 0 S dX8_pick_59 rfl ?_
    refine g_getJ (pc := 60) S dX8_pick_60 fl_X8_39 k0 ?_
    refine g_lneg (pc := 63) S dX8_pick_63 ?_
    refine g_putJ (pc := 64) S dX8_pick_64 fl_X8_39 k0 hyp (fun h4 hyp => ?_)
    have hyp := Option.some.inj hyp
    subst hyp
    exact g_vret (pc := 67) S F dX8_pick_67
  · refine g_aload_n (pc := 31) 0 S dX8_pick_31 rfl ?_
    refine g_aload_n (pc := 32) 0 S dX8_pick_32 rfl ?_
    refine g_getR (pc := 33) S dX8_pick_33 fl_X8_36 k0 ?_
    refine g_aload_n (pc := 36) 0 S dX8_pick_36 rfl ?_
    refine g_getR (pc := 37) S dX8_pick_37 fl_X8_32 k0 ?_
    refine g_bind hyp (fun y5 hy5 hyp => ?_)
    refine g_callV (pc := 40) (As := [.ref (ad K (c0 + 10)), .ref (ad K (c0 + 9))]) (rest := []) S dX8_pick_40 k0 rfl tw_741 tw_742 tw_24 mw_X8_descend (m_X8_descend k0 (kf_8_10 k0) (kf_8_9 k0)  h hy5) rfl rfl (Nat.le_of_ble_eq_true rfl) (Nat.le_of_ble_eq_true rfl) (Nat.le_of_ble_eq_true rfl) ?_
    refine g_goto (pc := 43) (tgt := 67) S dX8_pick_43 (by decide) ?_
    have hyp := Option.some.inj hyp
    subst hyp
    exact g_vret (pc := 67) S F dX8_pick_67
set_option maxRecDepth 100000 in
set_option maxHeartbeats 4000000 in
theorem o_X8_pick {K : gK} (S : Cx K RX8 cX8_pick 1 2 88) {c0 : Nat} (k0 : kd c0 (10 + 8, 0))  (h : Hp) {o : Hp} (hyp : s_X8_pick c0  h = some o) (F : Rt K none none o) : Go K 0 [(0, .ref (ad K c0))] [] h := by
  unfold s_X8_pick at hyp
  refine g_aload_n (pc := 0) 0 S dX8_pick_0 rfl ?_
  refine g_getR (pc := 1) S dX8_pick_1 fl_X8_32 k0 ?_
  refine g_bind hyp (fun y1 hy1 hyp => ?_)
  refine g_callS (pc := 4) (As := [.ref (ad K (c0 + 9))]) (rest := []) S dX8_pick_4 tw_738 tw_739 mw_X8_reachesZero (m_X8_reachesZero (kf_8_9 k0)  h hy1) rfl rfl (Nat.le_of_ble_eq_true rfl) (Nat.le_of_ble_eq_true rfl) (Nat.le_of_ble_eq_true rfl) ?_
  refine g_if_eq (pc := 7) (tgt := 21) S dX8_pick_7 (by decide) hyp (fun hyp => ?_) (fun hyp => ?_)
  · exact g_sub [0] rfl (o_X8_pick_b21 S k0  h hyp F)
  · refine g_aload_n (pc := 10) 0 S dX8_pick_10 rfl ?_
    refine g_getR (pc := 11) S dX8_pick_11 fl_X8_36 k0 ?_
    refine g_bind hyp (fun y6 hy6 hyp => ?_)
    refine g_callS (pc := 14) (As := [.ref (ad K (c0 + 10))]) (rest := []) S dX8_pick_14 tw_738 tw_739 mw_X8_reachesZero (m_X8_reachesZero (kf_8_10 k0)  h hy6) rfl rfl (Nat.le_of_ble_eq_true rfl) (Nat.le_of_ble_eq_true rfl) (Nat.le_of_ble_eq_true rfl) ?_
    refine g_if_eq (pc := 17) (tgt := 21) S dX8_pick_17 (by decide) hyp (fun hyp => ?_) (fun hyp => ?_)
    · exact g_sub [0] rfl (o_X8_pick_b21 S k0  h hyp F)
    · have hyp := Option.some.inj hyp
      subst hyp
      exact g_vret (pc := 20) S F dX8_pick_20
theorem m_X8_pick {l : Launch} {D : va_G} {cT : Nat → ClassId} {aD : Nat → Nat} {c0 : Nat} (k0 : kd c0 (10 + 8, 0))  (h : Hp) {o : Hp} (hyp : s_X8_pick c0  h = some o) : Ok l D cT aD yX8_pick cX8_pick 1 none 2 88 [.ref (aD c0)] h none o :=
  Ok.of (by decide +kernel) rfl (Nat.le_of_ble_eq_true rfl) (fun K e1 e2 e3 e4 S F => by subst e1; exact o_X8_pick S k0  h hyp F)
-- BoundProofs$Sampler settle (I)V
noncomputable def s_X8_settle_l76 (c0 : Nat) (a1 : Int32) (a4 : Int64) (a6 : Int64) (a8 : Int32) (h : Hp) : Option ((Int32 × Hp) ⊕ (Hp)) :=
  if a8 < (h.1 (c0 + 2) 4) then (ldJ h ((c0 + 2) + 2) 12 a8 fun x10 =>
  (s_X7_entry (c0 + 2) a8 a1 h).bind fun y11 =>
  stJ h ((c0 + 2) + 2) 12 a8 ((x10 * a4) - ((y11).toInt64 * a6)) fun h12 =>
  stI h12 ((c0 + 2) + 1) 36 ((a8 * (3 : Int32)) + a1) (0 : Int32) fun h13 =>
  lt (a8 + (1 : Int32)) fun v8_14 =>
  some (.inl (v8_14, h13)))
  else (some (.inr (h)))
noncomputable def s_X8_settle (c0 : Nat) (a1 : Int32) (h : Hp) : Option (Hp) :=
  ldJ h (c0 + 12) 3 a1 fun x1 =>
  (s_X9_commonDivisor  (h.2 c0 2) x1 h).bind fun y2 =>
  if (0 : Int64) < y2 then (ldJ h (c0 + 12) 3 a1 fun x3 =>
  if (0 : Int64) < x3 then (ldJ h (c0 + 12) 3 a1 fun x4 =>
  nzJ y2 <|
  lt (x4 / y2) fun v4_5 =>
  lt (sJ h c0 2 ((h.2 c0 2) * v4_5)) fun h6 =>
  ldJ h6 (c0 + 11) 3 a1 fun x7 =>
  ldJ h6 (c0 + 12) 3 a1 fun x8 =>
  nzJ x8 <|
  lt (x7 * ((h6.2 c0 2) / x8)) fun v6_9 =>
  (iter (fun s : Int32 × Hp => s_X8_settle_l76 c0 a1 v4_5 v6_9 s.1 s.2) FUEL ((0 : Int32), h6)).bind fun e15 =>
  some e15)
  else (some h))
  else (some h)
set_option maxRecDepth 100000 in
set_option maxHeartbeats 4000000 in
theorem o_X8_settle_l76 {K : gK} (S : Cx K RX8 cX8_settle 9 2 59) {c0 : Nat} (k0 : kd c0 (10 + 8, 0)) (a1 : Int32) (a4 : Int64) (a6 : Int64) (a8 : Int32) (h : Hp) {o : (Int32 × Hp) ⊕ (Hp)} (hyp : s_X8_settle_l76 c0 a1 a4 a6 a8 h = some o) (hin : ∀ s', o = .inl s' → Go K 76 [(0, .ref (ad K c0)), (1, .int a1), (4, .long a4), (6, .long a6), (8, .int s'.1)] [] s'.2) (hex0 : ∀ s', o = .inr (s') → Go K 147 [] [] s') : Go K 76 [(0, .ref (ad K c0)), (1, .int a1), (4, .long a4), (6, .long a6), (8, .int a8)] [] h := by
  unfold s_X8_settle_l76 at hyp
  refine g_iload (pc := 76) 4 S dX8_settle_76 rfl ?_
  refine g_aload_n (pc := 78) 0 S dX8_settle_78 rfl ?_
  refine g_getR (pc := 79) S dX8_settle_79 fl_X8_22 k0 ?_
  refine g_getI (pc := 82) S dX8_settle_82 fl_X8_104 (kf_8_2 k0) ?_
  refine g_icmp_ge (pc := 85) (tgt := 147) S dX8_settle_85 (by decide) hyp (fun hyp => ?_) (fun hyp => ?_)
  · refine g_aload_n (pc := 88) 0 S dX8_settle_88 rfl ?_
    refine g_getR (pc := 89) S dX8_settle_89 fl_X8_22 k0 ?_
    refine g_getR (pc := 92) S dX8_settle_92 fl_X8_107 (kf_8_2 k0) ?_
    refine g_iload (pc := 95) 4 S dX8_settle_95 rfl ?_
    refine g_aload_n (pc := 97) 0 S dX8_settle_97 rfl ?_
    refine g_getR (pc := 98) S dX8_settle_98 fl_X8_22 k0 ?_
    refine g_getR (pc := 101) S dX8_settle_101 fl_X8_107 (kf_8_2 k0) ?_
    refine g_iload (pc := 104) 4 S dX8_settle_104 rfl ?_
    refine g_lald (pc := 106) S dX8_settle_106 (kf_7_2 (kf_8_2 k0)) hyp (fun x10 hyp => ?_)
    refine g_lload (pc := 107) 2 S dX8_settle_107 rfl ?_
    refine g_lmul (pc := 109) S dX8_settle_109 ?_
    refine g_aload_n (pc := 110) 0 S dX8_settle_110 rfl ?_
    refine g_getR (pc := 111) S dX8_settle_111 fl_X8_22 k0 ?_
    refine g_iload (pc := 114) 4 S dX8_settle_114 rfl ?_
    refine g_iload_n (pc := 116) 1 S dX8_settle_116 rfl ?_
    refine g_bind hyp (fun y11 hy11 hyp => ?_)
    refine g_callV (pc := 117) (As := [.int a8, .int a1]) (rest := [.long (x10 * a4), .int a8, .ref (ad K ((c0 + 2) + 2))]) S dX8_settle_117 (kf_8_2 k0) rfl tw_750 tw_552 tw_553 mw_X7_entry (m_X7_entry (kf_8_2 k0) a8 a1 h hy11) rfl rfl (Nat.le_of_ble_eq_true rfl) (Nat.le_of_ble_eq_true rfl) (Nat.le_of_ble_eq_true rfl) ?_
    refine g_i2l (pc := 120) S dX8_settle_120 ?_
    refine g_lload (pc := 121) 3 S dX8_settle_121 rfl ?_
    refine g_lmul (pc := 123) S dX8_settle_123 ?_
    refine g_lsub (pc := 124) S dX8_settle_124 ?_
    refine g_last (pc := 125) S dX8_settle_125 (kf_7_2 (kf_8_2 k0)) hyp (fun h12 hyp => ?_)
    refine g_aload_n (pc := 126) 0 S dX8_settle_126 rfl ?_
    refine g_getR (pc := 127) S dX8_settle_127 fl_X8_22 k0 ?_
    refine g_getR (pc := 130) S dX8_settle_130 fl_X8_114 (kf_8_2 k0) ?_
    refine g_iload (pc := 133) 4 S dX8_settle_133 rfl ?_
    refine g_iconst (pc := 135) (v := (3 : Int32)) S dX8_settle_135 (by decide) ?_
    refine g_imul (pc := 136) S dX8_settle_136 ?_
    refine g_iload_n (pc := 137) 1 S dX8_settle_137 rfl ?_
    refine g_iadd (pc := 138) S dX8_settle_138 ?_
    refine g_iconst (pc := 139) (v := (0 : Int32)) S dX8_settle_139 (by decide) ?_
    refine g_iast (pc := 140) S dX8_settle_140 (kf_7_1 (kf_8_2 k0)) hyp (fun h13 hyp => ?_)
    refine g_iinc (pc := 141) (v := (a8 + (1 : Int32))) (lv' := [(8, .int (a8 + (1 : Int32))), (0, .ref (ad K c0)), (1, .int a1), (4, .long a4), (6, .long a6)]) 4 S dX8_settle_141 rfl (by rfl) (by decide) rfl ?_
    refine g_lti (C := fun v8_14 => Go K (141 + 3) [(8, .int v8_14), (0, .ref (ad K c0)), (1, .int a1), (4, .long a4), (6, .long a6)] [] h13) hyp (fun v8_14 hyp => ?_)
    refine g_goto (pc := 144) (tgt := 76) S dX8_settle_144 (by decide) ?_
    have hyp := Option.some.inj hyp
    subst hyp
    exact g_sub [1, 2, 3, 4, 0] rfl (hin (v8_14, h13) rfl)
  · have hyp := Option.some.inj hyp
    subst hyp
    exact g_sub [] rfl (hex0 h rfl)
set_option maxRecDepth 100000 in
set_option maxHeartbeats 4000000 in
theorem o_X8_settle {K : gK} (S : Cx K RX8 cX8_settle 9 2 59) {c0 : Nat} (k0 : kd c0 (10 + 8, 0)) (a1 : Int32) (h : Hp) {o : Hp} (hyp : s_X8_settle c0 a1 h = some o) (F : Rt K none none o) : Go K 0 [(0, .ref (ad K c0)), (1, .int a1)] [] h := by
  unfold s_X8_settle at hyp
  refine g_aload_n (pc := 0) 0 S dX8_settle_0 rfl ?_
  refine g_getJ (pc := 1) S dX8_settle_1 fl_X8_25 k0 ?_
  refine g_aload_n (pc := 4) 0 S dX8_settle_4 rfl ?_
  refine g_getR (pc := 5) S dX8_settle_5 fl_X8_49 k0 ?_
  refine g_iload_n (pc := 8) 1 S dX8_settle_8 rfl ?_
  refine g_lald (pc := 9) S dX8_settle_9 (kf_8_12 k0) hyp (fun x1 hyp => ?_)
  refine g_bind hyp (fun y2 hy2 hyp => ?_)
  refine g_callSN (pc := 10) (As := [.long (h.2 c0 2), .long x1]) (rest := []) (host := "BoundProofs") S dX8_settle_10 (by decide +kernel) tw_650 mw_X9_commonDivisor (m_X9_commonDivisor  (h.2 c0 2) x1 h hy2) rfl rfl (Nat.le_of_ble_eq_true rfl) (Nat.le_of_ble_eq_true rfl) (Nat.le_of_ble_eq_true rfl) ?_
  refine g_lstore_n (pc := 13) (lv' := [(2, .long y2), (0, .ref (ad K c0)), (1, .int a1)]) S dX8_settle_13 rfl (by decide) rfl ?_
  refine g_lload_n (pc := 14) 0 S dX8_settle_14 rfl ?_
  refine g_lconst (pc := 15) (v := (0 : Int64)) S dX8_settle_15 (by decide) ?_
  refine g_lcmp_le (pc := 16) (tgt := 31) S dX8_settle_16 dX8_settle_17 (by decide) hyp (fun hyp => ?_) (fun hyp => ?_)
  · refine g_aload_n (pc := 20) 1 S dX8_settle_20 rfl ?_
    refine g_getR (pc := 21) S dX8_settle_21 fl_X8_49 k0 ?_
    refine g_iload_n (pc := 24) 2 S dX8_settle_24 rfl ?_
    refine g_lald (pc := 25) S dX8_settle_25 (kf_8_12 k0) hyp (fun x3 hyp => ?_)
    refine g_lconst (pc := 26) (v := (0 : Int64)) S dX8_settle_26 (by decide) ?_
    refine g_lcmp_gt (pc := 27) (tgt := 32) S dX8_settle_27 dX8_settle_28 (by decide) hyp (fun hyp => ?_) (fun hyp => ?_)
    · refine g_aload_n (pc := 32) 1 S dX8_settle_32 rfl ?_
      refine g_getR (pc := 33) S dX8_settle_33 fl_X8_49 k0 ?_
      refine g_iload_n (pc := 36) 2 S dX8_settle_36 rfl ?_
      refine g_lald (pc := 37) S dX8_settle_37 (kf_8_12 k0) hyp (fun x4 hyp => ?_)
      refine g_lload_n (pc := 38) 0 S dX8_settle_38 rfl ?_
      refine g_nzJ hyp (fun hz hyp => ?_)
      refine g_ldiv (pc := 39) S dX8_settle_39 hz ?_
      refine g_lti (C := fun v4_5 => Go K 40 [(2, .long y2), (0, .ref (ad K c0)), (1, .int a1)] [.long v4_5] h) hyp (fun v4_5 hyp => ?_)
      refine g_lstore (pc := 40) (lv' := [(4, .long v4_5), (2, .long y2), (0, .ref (ad K c0)), (1, .int a1)]) S dX8_settle_40 (by decide) rfl ?_
      refine g_aload_n (pc := 42) 2 S dX8_settle_42 rfl ?_
      refine g_dup (pc := 43) S dX8_settle_43 rfl ?_
      refine g_getJ (pc := 44) S dX8_settle_44 fl_X8_25 k0 ?_
      refine g_lload (pc := 47) 0 S dX8_settle_47 rfl ?_
      refine g_lmul (pc := 49) S dX8_settle_49 ?_
      refine g_putJ (pc := 50) S dX8_settle_50 fl_X8_25 k0 hyp (fun h6 hyp => ?_)
      refine g_aload_n (pc := 53) 2 S dX8_settle_53 rfl ?_
      refine g_getR (pc := 54) S dX8_settle_54 fl_X8_45 k0 ?_
      refine g_iload_n (pc := 57) 3 S dX8_settle_57 rfl ?_
      refine g_lald (pc := 58) S dX8_settle_58 (kf_8_11 k0) hyp (fun x7 hyp => ?_)
      refine g_aload_n (pc := 59) 2 S dX8_settle_59 rfl ?_
      refine g_getJ (pc := 60) S dX8_settle_60 fl_X8_25 k0 ?_
      refine g_aload_n (pc := 63) 2 S dX8_settle_63 rfl ?_
      refine g_getR (pc := 64) S dX8_settle_64 fl_X8_49 k0 ?_
      refine g_iload_n (pc := 67) 3 S dX8_settle_67 rfl ?_
      refine g_lald (pc := 68) S dX8_settle_68 (kf_8_12 k0) hyp (fun x8 hyp => ?_)
      refine g_nzJ hyp (fun hz hyp => ?_)
      refine g_ldiv (pc := 69) S dX8_settle_69 hz ?_
      refine g_lmul (pc := 70) S dX8_settle_70 ?_
      refine g_lti (C := fun v6_9 => Go K 71 [(4, .long v4_5), (2, .long y2), (0, .ref (ad K c0)), (1, .int a1)] [.long v6_9] h6) hyp (fun v6_9 hyp => ?_)
      refine g_lstore (pc := 71) (lv' := [(6, .long v6_9), (4, .long v4_5), (2, .long y2), (0, .ref (ad K c0)), (1, .int a1)]) S dX8_settle_71 (by decide) rfl ?_
      refine g_iconst (pc := 73) (v := (0 : Int32)) S dX8_settle_73 (by decide) ?_
      refine g_istore (pc := 74) (lv' := [(8, .int (0 : Int32)), (6, .long v6_9), (4, .long v4_5), (2, .long y2), (0, .ref (ad K c0)), (1, .int a1)]) S dX8_settle_74 (by decide) rfl ?_
      refine g_bind hyp (fun e15 he15 hyp => ?_)
      refine g_sub [4, 5, 2, 1, 0] rfl (g_loop (f := fun s : Int32 × Hp => s_X8_settle_l76 c0 a1 v4_5 v6_9 s.1 s.2) (ρ := Hp) (Hd := fun s : Int32 × Hp => Go K 76 [(0, .ref (ad K c0)), (1, .int a1), (4, .long v4_5), (6, .long v6_9), (8, .int s.1)] [] s.2) (Ex := fun e15 => Go K 147 [] [] e15) (fun s o h1 h2 h3 => o_X8_settle_l76 S k0 a1 v4_5 v6_9 s.1 s.2 h1 h2 h3) FUEL _ e15 he15 ?_)
      have hyp := Option.some.inj hyp
      subst hyp
      exact g_vret (pc := 147) S F dX8_settle_147
    · have hyp := Option.some.inj hyp
      subst hyp
      exact g_vret (pc := 31) S F dX8_settle_31
  · have hyp := Option.some.inj hyp
    subst hyp
    exact g_vret (pc := 31) S F dX8_settle_31
theorem m_X8_settle {l : Launch} {D : va_G} {cT : Nat → ClassId} {aD : Nat → Nat} {c0 : Nat} (k0 : kd c0 (10 + 8, 0)) (a1 : Int32) (h : Hp) {o : Hp} (hyp : s_X8_settle c0 a1 h = some o) : Ok l D cT aD yX8_settle cX8_settle 9 none 2 59 [.ref (aD c0), .int a1] h none o :=
  Ok.of (by decide +kernel) rfl (Nat.le_of_ble_eq_true rfl) (fun K e1 e2 e3 e4 S F => by subst e1; exact o_X8_settle S k0 a1 h hyp F)
-- BoundProofs$Sampler choose (LBoundProofs$Rows;I)V
noncomputable def s_X8_choose_b69 (c0 : Nat) (c1 : Nat) (a2 : Int32) (a3 : Int32) (h : Hp) : Option ((Int32 × Hp) ⊕ (Hp)) :=
  stJ h (c0 + 11) 3 a3 (h.2 c0 5) fun h9 =>
  stJ h9 (c0 + 12) 3 a3 (h9.2 c0 6) fun h10 =>
  (s_X8_settle c0 a3 h10).bind fun y11 =>
  lt (a3 + (1 : Int32)) fun v3_12 =>
  some (.inl (v3_12, y11))
noncomputable def s_X8_choose_l15 (c0 : Nat) (c1 : Nat) (a2 : Int32) (a3 : Int32) (h : Hp) : Option ((Int32 × Hp) ⊕ (Hp)) :=
  if a3 < (3 : Int32) then (lt (sJ h c0 5 (0 : Int64)) fun h3 =>
  lt (sJ h3 c0 6 (1 : Int64)) fun h4 =>
  if a3 < a2 then (lt (sI h4 (c0 + 2) 5 (a2 - a3)) fun h5 =>
  (s_X8_seek c0 (c0 + 9) a3 (1 : Int32) h5).bind fun y6 =>
  (s_X8_seek c0 (c0 + 10) a3 (-1 : Int32) y6).bind fun y7 =>
  (s_X8_pick c0  y7).bind fun y8 =>
  s_X8_choose_b69 c0 c1 a2 a3 y8)
  else (s_X8_choose_b69 c0 c1 a2 a3 h4))
  else (some (.inr (h)))
noncomputable def s_X8_choose (c0 : Nat) (c1 : Nat) (a2 : Int32) (h : Hp) : Option (Hp) :=
  (s_X7_copy (c0 + 2) c1  h).bind fun y1 =>
  lt (sJ y1 c0 2 (1 : Int64)) fun h2 =>
  (iter (fun s : Int32 × Hp => s_X8_choose_l15 c0 c1 a2 s.1 s.2) FUEL ((0 : Int32), h2)).bind fun e13 =>
  some e13
set_option maxRecDepth 100000 in
set_option maxHeartbeats 4000000 in
theorem o_X8_choose_b69 {K : gK} (S : Cx K RX8 cX8_choose 4 5 144) {c0 : Nat} (k0 : kd c0 (10 + 8, 0)) {c1 : Nat} (k1 : kd c1 (10 + 7, 0)) (a2 : Int32) (a3 : Int32) (h : Hp) {o : (Int32 × Hp) ⊕ (Hp)} (hyp : s_X8_choose_b69 c0 c1 a2 a3 h = some o) (hin : ∀ s', o = .inl s' → Go K 15 [(0, .ref (ad K c0)), (2, .int a2), (3, .int s'.1)] [] s'.2) (hex0 : ∀ s', o = .inr (s') → Go K 100 [] [] s') : Go K 69 [(0, .ref (ad K c0)), (2, .int a2), (3, .int a3)] [] h := by
  unfold s_X8_choose_b69 at hyp
  refine g_aload_n (pc := 69) 0 S dX8_choose_69 rfl ?_
  refine g_getR (pc := 70) S dX8_choose_70 fl_X8_45 k0 ?_
  refine g_iload_n (pc := 73) 2 S dX8_choose_73 rfl ?_
  refine g_aload_n (pc := 74) 0 S dX8_choose_74 rfl ?_
  refine g_getJ (pc := 75) S dX8_choose_75 fl_X8_39 k0 ?_
  refine g_last (pc := 78) S dX8_choose_78 (kf_8_11 k0) hyp (fun h9 hyp => ?_)
  refine g_aload_n (pc := 79) 0 S dX8_choose_79 rfl ?_
  refine g_getR (pc := 80) S dX8_choose_80 fl_X8_49 k0 ?_
  refine g_iload_n (pc := 83) 2 S dX8_choose_83 rfl ?_
  refine g_aload_n (pc := 84) 0 S dX8_choose_84 rfl ?_
  refine g_getJ (pc := 85) S dX8_choose_85 fl_X8_42 k0 ?_
  refine g_last (pc := 88) S dX8_choose_88 (kf_8_12 k0) hyp (fun h10 hyp => ?_)
  refine g_aload_n (pc := 89) 0 S dX8_choose_89 rfl ?_
  refine g_iload_n (pc := 90) 2 S dX8_choose_90 rfl ?_
  refine g_bind hyp (fun y11 hy11 hyp => ?_)
  refine g_callV (pc := 91) (As := [.int a3]) (rest := []) S dX8_choose_91 k0 rfl tw_747 tw_748 tw_25 mw_X8_settle (m_X8_settle k0 a3 h10 hy11) rfl rfl (Nat.le_of_ble_eq_true rfl) (Nat.le_of_ble_eq_true rfl) (Nat.le_of_ble_eq_true rfl) ?_
  refine g_iinc (pc := 94) (v := (a3 + (1 : Int32))) (lv' := [(3, .int (a3 + (1 : Int32))), (0, .ref (ad K c0)), (2, .int a2)]) 2 S dX8_choose_94 rfl (by rfl) (by decide) rfl ?_
  refine g_lti (C := fun v3_12 => Go K (94 + 3) [(3, .int v3_12), (0, .ref (ad K c0)), (2, .int a2)] [] y11) hyp (fun v3_12 hyp => ?_)
  refine g_goto (pc := 97) (tgt := 15) S dX8_choose_97 (by decide) ?_
  have hyp := Option.some.inj hyp
  subst hyp
  exact g_sub [1, 2, 0] rfl (hin (v3_12, y11) rfl)
set_option maxRecDepth 100000 in
set_option maxHeartbeats 4000000 in
theorem o_X8_choose_l15 {K : gK} (S : Cx K RX8 cX8_choose 4 5 144) {c0 : Nat} (k0 : kd c0 (10 + 8, 0)) {c1 : Nat} (k1 : kd c1 (10 + 7, 0)) (a2 : Int32) (a3 : Int32) (h : Hp) {o : (Int32 × Hp) ⊕ (Hp)} (hyp : s_X8_choose_l15 c0 c1 a2 a3 h = some o) (hin : ∀ s', o = .inl s' → Go K 15 [(0, .ref (ad K c0)), (2, .int a2), (3, .int s'.1)] [] s'.2) (hex0 : ∀ s', o = .inr (s') → Go K 100 [] [] s') : Go K 15 [(0, .ref (ad K c0)), (2, .int a2), (3, .int a3)] [] h := by
  unfold s_X8_choose_l15 at hyp
  refine g_iload_n (pc := 15) 2 S dX8_choose_15 rfl ?_
  refine g_iconst (pc := 16) (v := (3 : Int32)) S dX8_choose_16 (by decide) ?_
  refine g_icmp_ge (pc := 17) (tgt := 100) S dX8_choose_17 (by decide) hyp (fun hyp => ?_) (fun hyp => ?_)
  · refine g_aload_n (pc := 20) 0 S dX8_choose_20 rfl ?_
    refine g_lconst (pc := 21) (v := (0 : Int64)) S dX8_choose_21 (by decide) ?_
    refine g_putJ (pc := 22) S dX8_choose_22 fl_X8_39 k0 hyp (fun h3 hyp => ?_)
    refine g_aload_n (pc := 25) 0 S dX8_choose_25 rfl ?_
    refine g_lconst (pc := 26) (v := (1 : Int64)) S dX8_choose_26 (by decide) ?_
    refine g_putJ (pc := 27) S dX8_choose_27 fl_X8_42 k0 hyp (fun h4 hyp => ?_)
    refine g_iload_n (pc := 30) 2 S dX8_choose_30 rfl ?_
    refine g_iload_n (pc := 31) 1 S dX8_choose_31 rfl ?_
    refine g_icmp_ge (pc := 32) (tgt := 69) S dX8_choose_32 (by decide) hyp (fun hyp => ?_) (fun hyp => ?_)
    · refine g_aload_n (pc := 35) 0 S dX8_choose_35 rfl ?_
      refine g_getR (pc := 36) S dX8_choose_36 fl_X8_22 k0 ?_
      refine g_iload_n (pc := 39) 1 S dX8_choose_39 rfl ?_
      refine g_iload_n (pc := 40) 2 S dX8_choose_40 rfl ?_
      refine g_isub (pc := 41) S dX8_choose_41 ?_
      refine g_putI (pc := 42) S dX8_choose_42 fl_X8_58 (kf_8_2 k0) hyp (fun h5 hyp => ?_)
      refine g_aload_n (pc := 45) 0 S dX8_choose_45 rfl ?_
      refine g_aload_n (pc := 46) 0 S dX8_choose_46 rfl ?_
      refine g_getR (pc := 47) S dX8_choose_47 fl_X8_32 k0 ?_
      refine g_iload_n (pc := 50) 2 S dX8_choose_50 rfl ?_
      refine g_iconst (pc := 51) (v := (1 : Int32)) S dX8_choose_51 (by decide) ?_
      refine g_bind hyp (fun y6 hy6 hyp => ?_)
      refine g_callV (pc := 52) (As := [.ref (ad K (c0 + 9)), .int a3, .int (1 : Int32)]) (rest := []) S dX8_choose_52 k0 rfl tw_731 tw_732 tw_22 mw_X8_seek (m_X8_seek k0 (kf_8_9 k0) a3 (1 : Int32) h5 hy6) rfl rfl (Nat.le_of_ble_eq_true rfl) (Nat.le_of_ble_eq_true rfl) (Nat.le_of_ble_eq_true rfl) ?_
      refine g_aload_n (pc := 55) 0 S dX8_choose_55 rfl ?_
      refine g_aload_n (pc := 56) 0 S dX8_choose_56 rfl ?_
      refine g_getR (pc := 57) S dX8_choose_57 fl_X8_36 k0 ?_
      refine g_iload_n (pc := 60) 2 S dX8_choose_60 rfl ?_
      refine g_iconst (pc := 61) (v := (-1 : Int32)) S dX8_choose_61 (by decide) ?_
      refine g_bind hyp (fun y7 hy7 hyp => ?_)
      refine g_callV (pc := 62) (As := [.ref (ad K (c0 + 10)), .int a3, .int (-1 : Int32)]) (rest := []) S dX8_choose_62 k0 rfl tw_731 tw_732 tw_22 mw_X8_seek (m_X8_seek k0 (kf_8_10 k0) a3 (-1 : Int32) y6 hy7) rfl rfl (Nat.le_of_ble_eq_true rfl) (Nat.le_of_ble_eq_true rfl) (Nat.le_of_ble_eq_true rfl) ?_
      refine g_aload_n (pc := 65) 0 S dX8_choose_65 rfl ?_
      refine g_bind hyp (fun y8 hy8 hyp => ?_)
      refine g_callV (pc := 66) (As := []) (rest := []) S dX8_choose_66 k0 rfl tw_735 tw_736 tw_23 mw_X8_pick (m_X8_pick k0  y7 hy8) rfl rfl (Nat.le_of_ble_eq_true rfl) (Nat.le_of_ble_eq_true rfl) (Nat.le_of_ble_eq_true rfl) ?_
      exact g_sub [0, 1, 2] rfl (o_X8_choose_b69 S k0 k1 a2 a3 y8 hyp hin hex0)
    · exact g_sub [0, 1, 2] rfl (o_X8_choose_b69 S k0 k1 a2 a3 h4 hyp hin hex0)
  · have hyp := Option.some.inj hyp
    subst hyp
    exact g_sub [] rfl (hex0 h rfl)
set_option maxRecDepth 100000 in
set_option maxHeartbeats 4000000 in
theorem o_X8_choose {K : gK} (S : Cx K RX8 cX8_choose 4 5 144) {c0 : Nat} (k0 : kd c0 (10 + 8, 0)) {c1 : Nat} (k1 : kd c1 (10 + 7, 0)) (a2 : Int32) (h : Hp) {o : Hp} (hyp : s_X8_choose c0 c1 a2 h = some o) (F : Rt K none none o) : Go K 0 [(0, .ref (ad K c0)), (1, .ref (ad K c1)), (2, .int a2)] [] h := by
  unfold s_X8_choose at hyp
  refine g_aload_n (pc := 0) 0 S dX8_choose_0 rfl ?_
  refine g_getR (pc := 1) S dX8_choose_1 fl_X8_22 k0 ?_
  refine g_aload_n (pc := 4) 1 S dX8_choose_4 rfl ?_
  refine g_bind hyp (fun y1 hy1 hyp => ?_)
  refine g_callV (pc := 5) (As := [.ref (ad K c1)]) (rest := []) S dX8_choose_5 (kf_8_2 k0) rfl tw_726 tw_727 tw_728 mw_X7_copy (m_X7_copy (kf_8_2 k0) k1  h hy1) rfl rfl (Nat.le_of_ble_eq_true rfl) (Nat.le_of_ble_eq_true rfl) (Nat.le_of_ble_eq_true rfl) ?_
  refine g_aload_n (pc := 8) 0 S dX8_choose_8 rfl ?_
  refine g_lconst (pc := 9) (v := (1 : Int64)) S dX8_choose_9 (by decide) ?_
  refine g_putJ (pc := 10) S dX8_choose_10 fl_X8_25 k0 hyp (fun h2 hyp => ?_)
  refine g_iconst (pc := 13) (v := (0 : Int32)) S dX8_choose_13 (by decide) ?_
  refine g_istore_n (pc := 14) (lv' := [(3, .int (0 : Int32)), (0, .ref (ad K c0)), (1, .ref (ad K c1)), (2, .int a2)]) S dX8_choose_14 rfl (by decide) rfl ?_
  refine g_bind hyp (fun e13 he13 hyp => ?_)
  refine g_sub [1, 3, 0] rfl (g_loop (f := fun s : Int32 × Hp => s_X8_choose_l15 c0 c1 a2 s.1 s.2) (ρ := Hp) (Hd := fun s : Int32 × Hp => Go K 15 [(0, .ref (ad K c0)), (2, .int a2), (3, .int s.1)] [] s.2) (Ex := fun e13 => Go K 100 [] [] e13) (fun s o h1 h2 h3 => o_X8_choose_l15 S k0 k1 a2 s.1 s.2 h1 h2 h3) FUEL _ e13 he13 ?_)
  have hyp := Option.some.inj hyp
  subst hyp
  exact g_vret (pc := 100) S F dX8_choose_100
theorem m_X8_choose {l : Launch} {D : va_G} {cT : Nat → ClassId} {aD : Nat → Nat} {c0 : Nat} (k0 : kd c0 (10 + 8, 0)) {c1 : Nat} (k1 : kd c1 (10 + 7, 0)) (a2 : Int32) (h : Hp) {o : Hp} (hyp : s_X8_choose c0 c1 a2 h = some o) : Ok l D cT aD yX8_choose cX8_choose 4 none 5 144 [.ref (aD c0), .ref (aD c1), .int a2] h none o :=
  Ok.of (by decide +kernel) rfl (Nat.le_of_ble_eq_true rfl) (fun K e1 e2 e3 e4 S F => by subst e1; exact o_X8_choose S k0 k1 a2 h hyp F)
-- BoundProofs sample (I)I
noncomputable def s_X9_sample (c0 : Nat) (a1 : Int32) (h : Hp) : Option (Int32 × Hp) :=
  (s_X5_hasVariable (c0 + 1) a1 h).bind fun y1 =>
  if y1 = 0 then (some ((-1 : Int32), h))
  else ((s_X9_satisfiable c0  h).bind fun y2 =>
  if y2 = 0 then (some ((-2 : Int32), h))
  else ((s_X8_choose (c0 + 42) (c0 + 32) (h.1 (c0 + 1) 0) h).bind fun y3 =>
  ldJ y3 ((c0 + 42) + 11) 3 a1 fun x4 =>
  ldJ y3 ((c0 + 42) + 12) 3 a1 fun x5 =>
  (s_X9_find c0 x4 x5 y3).bind fun y6 =>
  some ((1 : Int32), y6)))
set_option maxRecDepth 100000 in
set_option maxHeartbeats 4000000 in
theorem o_X9_sample {K : gK} (S : Cx K RX9 cX9_sample 2 6 171) {c0 : Nat} (k0 : kd c0 (10 + 9, 0)) (a1 : Int32) (h : Hp) {o : Int32 × Hp} (hyp : s_X9_sample c0 a1 h = some o) (F : Rt K (some .int) (some (.int o.1)) o.2) : Go K 0 [(0, .ref (ad K c0)), (1, .int a1)] [] h := by
  unfold s_X9_sample at hyp
  refine g_aload_n (pc := 0) 0 S dX9_sample_0 rfl ?_
  refine g_getR (pc := 1) S dX9_sample_1 fl_X9_12 k0 ?_
  refine g_iload_n (pc := 4) 1 S dX9_sample_4 rfl ?_
  refine g_bind hyp (fun y1 hy1 hyp => ?_)
  refine g_callV (pc := 5) (As := [.int a1]) (rest := []) S dX9_sample_5 (kf_9_1 k0) rfl tw_586 tw_478 tw_479 mw_X5_hasVariable (m_X5_hasVariable (kf_9_1 k0) a1 h hy1) rfl rfl (Nat.le_of_ble_eq_true rfl) (Nat.le_of_ble_eq_true rfl) (Nat.le_of_ble_eq_true rfl) ?_
  refine g_if_ne (pc := 8) (tgt := 13) S dX9_sample_8 (by decide) hyp (fun hyp => ?_) (fun hyp => ?_)
  · refine g_iconst (pc := 11) (v := (-1 : Int32)) S dX9_sample_11 (by decide) ?_
    have hyp := Option.some.inj hyp
    subst hyp
    exact g_iret (pc := 12) S F dX9_sample_12
  · refine g_aload_n (pc := 13) 0 S dX9_sample_13 rfl ?_
    refine g_bind hyp (fun y2 hy2 hyp => ?_)
    refine g_callV (pc := 14) (As := []) (rest := []) S dX9_sample_14 k0 rfl tw_620 tw_621 tw_16 mw_X9_satisfiable (m_X9_satisfiable k0  h hy2) rfl rfl (Nat.le_of_ble_eq_true rfl) (Nat.le_of_ble_eq_true rfl) (Nat.le_of_ble_eq_true rfl) ?_
    refine g_if_ne (pc := 17) (tgt := 23) S dX9_sample_17 (by decide) hyp (fun hyp => ?_) (fun hyp => ?_)
    · refine g_bipush (pc := 20) (v := (-2 : Int32)) S dX9_sample_20 (by decide) ?_
      have hyp := Option.some.inj hyp
      subst hyp
      exact g_iret (pc := 22) S F dX9_sample_22
    · refine g_aload_n (pc := 23) 0 S dX9_sample_23 rfl ?_
      refine g_getR (pc := 24) S dX9_sample_24 fl_X9_63 k0 ?_
      refine g_aload_n (pc := 27) 0 S dX9_sample_27 rfl ?_
      refine g_getR (pc := 28) S dX9_sample_28 fl_X9_52 k0 ?_
      refine g_aload_n (pc := 31) 0 S dX9_sample_31 rfl ?_
      refine g_getR (pc := 32) S dX9_sample_32 fl_X9_12 k0 ?_
      refine g_getI (pc := 35) S dX9_sample_35 fl_X9_249 (kf_9_1 k0) ?_
      refine g_bind hyp (fun y3 hy3 hyp => ?_)
      refine g_callV (pc := 38) (As := [.ref (ad K (c0 + 32)), .int (h.1 (c0 + 1) 0)]) (rest := []) S dX9_sample_38 (kf_9_42 k0) rfl tw_722 tw_723 tw_724 mw_X8_choose (m_X8_choose (kf_9_42 k0) (kf_9_32 k0) (h.1 (c0 + 1) 0) h hy3) rfl rfl (Nat.le_of_ble_eq_true rfl) (Nat.le_of_ble_eq_true rfl) (Nat.le_of_ble_eq_true rfl) ?_
      refine g_aload_n (pc := 41) 0 S dX9_sample_41 rfl ?_
      refine g_aload_n (pc := 42) 0 S dX9_sample_42 rfl ?_
      refine g_getR (pc := 43) S dX9_sample_43 fl_X9_63 k0 ?_
      refine g_getR (pc := 46) S dX9_sample_46 fl_X9_256 (kf_9_42 k0) ?_
      refine g_iload_n (pc := 49) 1 S dX9_sample_49 rfl ?_
      refine g_lald (pc := 50) S dX9_sample_50 (kf_8_11 (kf_9_42 k0)) hyp (fun x4 hyp => ?_)
      refine g_aload_n (pc := 51) 0 S dX9_sample_51 rfl ?_
      refine g_getR (pc := 52) S dX9_sample_52 fl_X9_63 k0 ?_
      refine g_getR (pc := 55) S dX9_sample_55 fl_X9_259 (kf_9_42 k0) ?_
      refine g_iload_n (pc := 58) 1 S dX9_sample_58 rfl ?_
      refine g_lald (pc := 59) S dX9_sample_59 (kf_8_12 (kf_9_42 k0)) hyp (fun x5 hyp => ?_)
      refine g_bind hyp (fun y6 hy6 hyp => ?_)
      refine g_callV (pc := 60) (As := [.long x4, .long x5]) (rest := []) S dX9_sample_60 k0 rfl tw_676 tw_677 tw_19 mw_X9_find (m_X9_find k0 x4 x5 y3 hy6) rfl rfl (Nat.le_of_ble_eq_true rfl) (Nat.le_of_ble_eq_true rfl) (Nat.le_of_ble_eq_true rfl) ?_
      refine g_iconst (pc := 63) (v := (1 : Int32)) S dX9_sample_63 (by decide) ?_
      have hyp := Option.some.inj hyp
      subst hyp
      exact g_iret (pc := 64) S F dX9_sample_64
theorem m_X9_sample {l : Launch} {D : va_G} {cT : Nat → ClassId} {aD : Nat → Nat} {c0 : Nat} (k0 : kd c0 (10 + 9, 0)) (a1 : Int32) (h : Hp) {o : Int32 × Hp} (hyp : s_X9_sample c0 a1 h = some o) : Ok l D cT aD yX9_sample cX9_sample 2 (some .int) 6 171 [.ref (aD c0), .int a1] h (some (.int o.1)) o.2 :=
  Ok.of (by decide +kernel) rfl (Nat.le_of_ble_eq_true rfl) (fun K e1 e2 e3 e4 S F => by subst e1; exact o_X9_sample S k0 a1 h hyp F)
