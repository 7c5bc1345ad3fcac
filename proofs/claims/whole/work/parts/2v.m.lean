-- BoundProofsModel readsForm ()Z
noncomputable def s_X10_readsForm_b136 (c0 : Nat) (a1 : Int32) (t0 : Int32) (h : Hp) : Option ((Int32 × Hp) ⊕ (Int32 × Hp)) :=
  lt (sI h c0 44 ((h.1 c0 44) + (1 : Int32))) fun h11 =>
  (s_X10_readsTerm c0 t0 h11).bind fun y12 =>
  some (.inl (y12.1, y12.2))
noncomputable def s_X10_readsForm_b122 (c0 : Nat) (a1 : Int32) (h : Hp) : Option ((Int32 × Hp) ⊕ (Int32 × Hp)) :=
  (s_X10_here c0  h).bind fun y10 =>
  if y10.1 = (45 : Int32) then (s_X10_readsForm_b136 c0 a1 (-1 : Int32) y10.2)
  else (s_X10_readsForm_b136 c0 a1 (1 : Int32) y10.2)
noncomputable def s_X10_readsForm_l100 (c0 : Nat) (a1 : Int32) (a3 : Int32) (h : Hp) : Option ((Int32 × Hp) ⊕ (Int32 × Hp)) :=
  if a3 = 0 then (some (.inr ((a3, h))))
  else ((s_X10_here c0  h).bind fun y9 =>
  if y9.1 = (43 : Int32) then (s_X10_readsForm_b122 c0 a1 y9.2)
  else ((s_X10_here c0  y9.2).bind fun y13 =>
  if y13.1 = (45 : Int32) then (s_X10_readsForm_b122 c0 a1 y13.2)
  else (some (.inr ((a3, y13.2))))))
noncomputable def s_X10_readsForm_b267 (c0 : Nat)  (h : Hp) : Option (Int32 × Hp) :=
  lt (sI h c0 44 ((h.1 c0 44) + (1 : Int32))) fun h21 =>
  lt (sI h21 c0 47 ((h21.1 c0 47) + (1 : Int32))) fun h22 =>
  some ((1 : Int32), h22)
noncomputable def s_X10_readsForm_b227 (c0 : Nat) (a1 : Int32) (t0 : Int32) (h : Hp) : Option (Int32 × Hp) :=
  if t0 = 0 then (some ((0 : Int32), h))
  else (ldI h (c0 + 24) 24 a1 fun x18 =>
  if x18 = 0 then (ldI h (c0 + 24) 24 (a1 + (1 : Int32)) fun x19 =>
  if x19 = 0 then (ldI h (c0 + 24) 24 (a1 + (2 : Int32)) fun x20 =>
  if x20 = 0 then (some ((0 : Int32), h))
  else (s_X10_readsForm_b267 c0  h))
  else (s_X10_readsForm_b267 c0  h))
  else (s_X10_readsForm_b267 c0  h))
noncomputable def s_X10_readsForm_b226 (c0 : Nat) (a1 : Int32) (h : Hp) : Option (Int32 × Hp) :=
  s_X10_readsForm_b227 c0 a1 (0 : Int32) h
noncomputable def s_X10_readsForm_b96 (c0 : Nat) (a1 : Int32) (t0 : Int32) (h : Hp) : Option (Int32 × Hp) :=
  (s_X10_readsTerm c0 t0 h).bind fun y8 =>
  (iter (fun s : Int32 × Hp => s_X10_readsForm_l100 c0 a1 s.1 s.2) FUEL (y8.1, y8.2)).bind fun e14 =>
  if e14.1 = 0 then (some ((0 : Int32), e14.2))
  else ((s_X10_here c0  e14.2).bind fun y15 =>
  if y15.1 = (59 : Int32) then (ldI y15.2 (c0 + 24) 24 a1 fun x16 =>
  (s_X10_in  x16 (-3 : Int32) (3 : Int32) y15.2).bind fun y17 =>
  if y17 = 0 then (s_X10_readsForm_b226 c0 a1 y15.2)
  else (ldI y15.2 (c0 + 24) 24 (a1 + (1 : Int32)) fun x23 =>
  (s_X10_in  x23 (-3 : Int32) (3 : Int32) y15.2).bind fun y24 =>
  if y24 = 0 then (s_X10_readsForm_b226 c0 a1 y15.2)
  else (ldI y15.2 (c0 + 24) 24 (a1 + (2 : Int32)) fun x25 =>
  (s_X10_in  x25 (-3 : Int32) (3 : Int32) y15.2).bind fun y26 =>
  if y26 = 0 then (s_X10_readsForm_b226 c0 a1 y15.2)
  else (s_X10_readsForm_b227 c0 a1 (1 : Int32) y15.2))))
  else (some ((0 : Int32), y15.2)))
noncomputable def s_X10_readsForm_b80 (c0 : Nat) (a1 : Int32) (a2 : Int32) (t0 : Int32) (t1 : Int32) (h : Hp) : Option (Int32 × Hp) :=
  lt (sI h c0 44 (t1 + t0)) fun h7 =>
  if a2 = (45 : Int32) then (s_X10_readsForm_b96 c0 a1 (-1 : Int32) h7)
  else (s_X10_readsForm_b96 c0 a1 (1 : Int32) h7)
noncomputable def s_X10_readsForm_b75 (c0 : Nat) (a1 : Int32) (a2 : Int32) (t0 : Int32) (h : Hp) : Option (Int32 × Hp) :=
  s_X10_readsForm_b80 c0 a1 a2 (1 : Int32) t0 h
noncomputable def s_X10_readsForm (c0 : Nat)  (h : Hp) : Option (Int32 × Hp) :=
  if (h.1 c0 47) = (8 : Int32) then (some ((0 : Int32), h))
  else (lt (sI h c0 44 ((h.1 c0 44) + (1 : Int32))) fun h1 =>
  lt ((3 : Int32) * (h1.1 c0 47)) fun v1_2 =>
  stI h1 (c0 + 24) 24 v1_2 (0 : Int32) fun h3 =>
  stI h3 (c0 + 24) 24 (v1_2 + (1 : Int32)) (0 : Int32) fun h4 =>
  stI h4 (c0 + 24) 24 (v1_2 + (2 : Int32)) (0 : Int32) fun h5 =>
  (s_X10_here c0  h5).bind fun y6 =>
  if y6.1 = (43 : Int32) then (s_X10_readsForm_b75 c0 v1_2 y6.1 (y6.2.1 c0 44) y6.2)
  else (if y6.1 = (45 : Int32) then (s_X10_readsForm_b75 c0 v1_2 y6.1 (y6.2.1 c0 44) y6.2)
  else (s_X10_readsForm_b80 c0 v1_2 y6.1 (0 : Int32) (y6.2.1 c0 44) y6.2)))
set_option maxRecDepth 100000 in
set_option maxHeartbeats 4000000 in
theorem o_X10_readsForm_b136 {K : gK} (S : Cx K RX10 cX10_readsForm 5 3 81) {c0 : Nat} (k0 : kd c0 (10 + 10, 0)) (a1 : Int32) (t0 : Int32) (h : Hp) {o : (Int32 × Hp) ⊕ (Int32 × Hp)} (hyp : s_X10_readsForm_b136 c0 a1 t0 h = some o) (hin : ∀ s', o = .inl s' → Go K 100 [(0, .ref (ad K c0)), (1, .int a1), (3, .int s'.1)] [] s'.2) (hex0 : ∀ s', o = .inr (s') → Go K 158 [(0, .ref (ad K c0)), (1, .int a1), (3, .int s'.1)] [] s'.2) : Go K 136 [(0, .ref (ad K c0)), (1, .int a1)] [.int t0] h := by
  unfold s_X10_readsForm_b136 at hyp
  refine g_istore (pc := 136) (lv' := [(4, .int t0), (0, .ref (ad K c0)), (1, .int a1)]) S dX10_readsForm_136 (by decide) rfl ?_
  refine g_aload_n (pc := 138) 1 S dX10_readsForm_138 rfl ?_
  refine g_dup (pc := 139) S dX10_readsForm_139 rfl ?_
  refine g_getI (pc := 140) S dX10_readsForm_140 fl_X10_339 k0 ?_
  refine g_iconst (pc := 143) (v := (1 : Int32)) S dX10_readsForm_143 (by decide) ?_
  refine g_iadd (pc := 144) S dX10_readsForm_144 ?_
  refine g_putI (pc := 145) S dX10_readsForm_145 fl_X10_339 k0 hyp (fun h11 hyp => ?_)
  refine g_aload_n (pc := 148) 1 S dX10_readsForm_148 rfl ?_
  refine g_iload (pc := 149) 0 S dX10_readsForm_149 rfl ?_
  refine g_bind hyp (fun y12 hy12 hyp => ?_)
  refine g_callV (pc := 151) (As := [.int t0]) (rest := []) S dX10_readsForm_151 k0 rfl tw_1277 tw_1278 tw_84 mw_X10_readsTerm (m_X10_readsTerm k0 t0 h11 hy12) rfl rfl (Nat.le_of_ble_eq_true rfl) (Nat.le_of_ble_eq_true rfl) (Nat.le_of_ble_eq_true rfl) ?_
  refine g_istore_n (pc := 154) (lv' := [(3, .int y12.1), (4, .int t0), (0, .ref (ad K c0)), (1, .int a1)]) S dX10_readsForm_154 rfl (by decide) rfl ?_
  refine g_goto (pc := 155) (tgt := 100) S dX10_readsForm_155 (by decide) ?_
  have hyp := Option.some.inj hyp
  subst hyp
  exact g_sub [2, 3, 0] rfl (hin (y12.1, y12.2) rfl)
set_option maxRecDepth 100000 in
set_option maxHeartbeats 4000000 in
theorem o_X10_readsForm_b122 {K : gK} (S : Cx K RX10 cX10_readsForm 5 3 81) {c0 : Nat} (k0 : kd c0 (10 + 10, 0)) (a1 : Int32) (h : Hp) {o : (Int32 × Hp) ⊕ (Int32 × Hp)} (hyp : s_X10_readsForm_b122 c0 a1 h = some o) (hin : ∀ s', o = .inl s' → Go K 100 [(0, .ref (ad K c0)), (1, .int a1), (3, .int s'.1)] [] s'.2) (hex0 : ∀ s', o = .inr (s') → Go K 158 [(0, .ref (ad K c0)), (1, .int a1), (3, .int s'.1)] [] s'.2) : Go K 122 [(0, .ref (ad K c0)), (1, .int a1)] [] h := by
  unfold s_X10_readsForm_b122 at hyp
  refine g_aload_n (pc := 122) 0 S dX10_readsForm_122 rfl ?_
  refine g_bind hyp (fun y10 hy10 hyp => ?_)
  refine g_callV (pc := 123) (As := []) (rest := []) S dX10_readsForm_123 k0 rfl tw_1259 tw_1260 tw_78 mw_X10_here (m_X10_here k0  h hy10) rfl rfl (Nat.le_of_ble_eq_true rfl) (Nat.le_of_ble_eq_true rfl) (Nat.le_of_ble_eq_true rfl) ?_
  refine g_bipush (pc := 126) (v := (45 : Int32)) S dX10_readsForm_126 (by decide) ?_
  refine g_icmp_ne (pc := 128) (tgt := 135) S dX10_readsForm_128 (by decide) hyp (fun hyp => ?_) (fun hyp => ?_)
  · refine g_iconst (pc := 131) (v := (-1 : Int32)) S dX10_readsForm_131 (by decide) ?_
    refine g_goto (pc := 132) (tgt := 136) S dX10_readsForm_132 (by decide) ?_
    exact g_sub [0, 1] rfl (o_X10_readsForm_b136 S k0 a1 (-1 : Int32) y10.2 hyp hin hex0)
  · refine g_iconst (pc := 135) (v := (1 : Int32)) S dX10_readsForm_135 (by decide) ?_
    exact g_sub [0, 1] rfl (o_X10_readsForm_b136 S k0 a1 (1 : Int32) y10.2 hyp hin hex0)
set_option maxRecDepth 100000 in
set_option maxHeartbeats 4000000 in
theorem o_X10_readsForm_l100 {K : gK} (S : Cx K RX10 cX10_readsForm 5 3 81) {c0 : Nat} (k0 : kd c0 (10 + 10, 0)) (a1 : Int32) (a3 : Int32) (h : Hp) {o : (Int32 × Hp) ⊕ (Int32 × Hp)} (hyp : s_X10_readsForm_l100 c0 a1 a3 h = some o) (hin : ∀ s', o = .inl s' → Go K 100 [(0, .ref (ad K c0)), (1, .int a1), (3, .int s'.1)] [] s'.2) (hex0 : ∀ s', o = .inr (s') → Go K 158 [(0, .ref (ad K c0)), (1, .int a1), (3, .int s'.1)] [] s'.2) : Go K 100 [(0, .ref (ad K c0)), (1, .int a1), (3, .int a3)] [] h := by
  unfold s_X10_readsForm_l100 at hyp
  refine g_iload_n (pc := 100) 2 S dX10_readsForm_100 rfl ?_
  refine g_if_eq (pc := 101) (tgt := 158) S dX10_readsForm_101 (by decide) hyp (fun hyp => ?_) (fun hyp => ?_)
  · have hyp := Option.some.inj hyp
    subst hyp
    exact g_sub [0, 1, 2] rfl (hex0 (a3, h) rfl)
  · refine g_aload_n (pc := 104) 0 S dX10_readsForm_104 rfl ?_
    refine g_bind hyp (fun y9 hy9 hyp => ?_)
    refine g_callV (pc := 105) (As := []) (rest := []) S dX10_readsForm_105 k0 rfl tw_1259 tw_1260 tw_78 mw_X10_here (m_X10_here k0  h hy9) rfl rfl (Nat.le_of_ble_eq_true rfl) (Nat.le_of_ble_eq_true rfl) (Nat.le_of_ble_eq_true rfl) ?_
    refine g_bipush (pc := 108) (v := (43 : Int32)) S dX10_readsForm_108 (by decide) ?_
    refine g_icmp_eq (pc := 110) (tgt := 122) S dX10_readsForm_110 (by decide) hyp (fun hyp => ?_) (fun hyp => ?_)
    · exact g_sub [0, 1] rfl (o_X10_readsForm_b122 S k0 a1 y9.2 hyp hin hex0)
    · refine g_aload_n (pc := 113) 0 S dX10_readsForm_113 rfl ?_
      refine g_bind hyp (fun y13 hy13 hyp => ?_)
      refine g_callV (pc := 114) (As := []) (rest := []) S dX10_readsForm_114 k0 rfl tw_1259 tw_1260 tw_78 mw_X10_here (m_X10_here k0  y9.2 hy13) rfl rfl (Nat.le_of_ble_eq_true rfl) (Nat.le_of_ble_eq_true rfl) (Nat.le_of_ble_eq_true rfl) ?_
      refine g_bipush (pc := 117) (v := (45 : Int32)) S dX10_readsForm_117 (by decide) ?_
      refine g_icmp_ne (pc := 119) (tgt := 158) S dX10_readsForm_119 (by decide) hyp (fun hyp => ?_) (fun hyp => ?_)
      · exact g_sub [0, 1] rfl (o_X10_readsForm_b122 S k0 a1 y13.2 hyp hin hex0)
      · have hyp := Option.some.inj hyp
        subst hyp
        exact g_sub [0, 1, 2] rfl (hex0 (a3, y13.2) rfl)
set_option maxRecDepth 100000 in
set_option maxHeartbeats 4000000 in
theorem o_X10_readsForm_b267 {K : gK} (S : Cx K RX10 cX10_readsForm 5 3 81) {c0 : Nat} (k0 : kd c0 (10 + 10, 0))  (h : Hp) {o : Int32 × Hp} (hyp : s_X10_readsForm_b267 c0  h = some o) (F : Rt K (some .boolean) (some (.int o.1)) o.2) : Go K 267 [(0, .ref (ad K c0))] [] h := by
  unfold s_X10_readsForm_b267 at hyp
  refine g_aload_n (pc := 267) 0 S dX10_readsForm_267 rfl ?_
  refine g_dup (pc := 268) S dX10_readsForm_268 rfl ?_
  refine g_getI (pc := 269) S dX10_readsForm_269 fl_X10_339 k0 ?_
  refine g_iconst (pc := 272) (v := (1 : Int32)) S dX10_readsForm_272 (by decide) ?_
  refine g_iadd (pc := 273) S dX10_readsForm_273 ?_
  refine g_putI (pc := 274) S dX10_readsForm_274 fl_X10_339 k0 hyp (fun h21 hyp => ?_)
  refine g_aload_n (pc := 277) 0 S dX10_readsForm_277 rfl ?_
  refine g_dup (pc := 278) S dX10_readsForm_278 rfl ?_
  refine g_getI (pc := 279) S dX10_readsForm_279 fl_X10_357 k0 ?_
  refine g_iconst (pc := 282) (v := (1 : Int32)) S dX10_readsForm_282 (by decide) ?_
  refine g_iadd (pc := 283) S dX10_readsForm_283 ?_
  refine g_putI (pc := 284) S dX10_readsForm_284 fl_X10_357 k0 hyp (fun h22 hyp => ?_)
  refine g_iconst (pc := 287) (v := (1 : Int32)) S dX10_readsForm_287 (by decide) ?_
  have hyp := Option.some.inj hyp
  subst hyp
  exact g_zret (pc := 288) S F dX10_readsForm_288 (Or.inr rfl)
set_option maxRecDepth 100000 in
set_option maxHeartbeats 4000000 in
theorem o_X10_readsForm_b227 {K : gK} (S : Cx K RX10 cX10_readsForm 5 3 81) {c0 : Nat} (k0 : kd c0 (10 + 10, 0)) (a1 : Int32) (t0 : Int32) (h : Hp) {o : Int32 × Hp} (hyp : s_X10_readsForm_b227 c0 a1 t0 h = some o) (F : Rt K (some .boolean) (some (.int o.1)) o.2) : Go K 227 [(0, .ref (ad K c0)), (1, .int a1)] [.int t0] h := by
  unfold s_X10_readsForm_b227 at hyp
  refine g_istore (pc := 227) (lv' := [(4, .int t0), (0, .ref (ad K c0)), (1, .int a1)]) S dX10_readsForm_227 (by decide) rfl ?_
  refine g_iload (pc := 229) 0 S dX10_readsForm_229 rfl ?_
  refine g_if_eq (pc := 231) (tgt := 265) S dX10_readsForm_231 (by decide) hyp (fun hyp => ?_) (fun hyp => ?_)
  · refine g_iconst (pc := 265) (v := (0 : Int32)) S dX10_readsForm_265 (by decide) ?_
    have hyp := Option.some.inj hyp
    subst hyp
    exact g_zret (pc := 266) S F dX10_readsForm_266 (Or.inl rfl)
  · refine g_aload_n (pc := 234) 1 S dX10_readsForm_234 rfl ?_
    refine g_getR (pc := 235) S dX10_readsForm_235 fl_X10_88 k0 ?_
    refine g_iload_n (pc := 238) 2 S dX10_readsForm_238 rfl ?_
    refine g_iald (pc := 239) S dX10_readsForm_239 (kf_10_24 k0) hyp (fun x18 hyp => ?_)
    refine g_if_ne (pc := 240) (tgt := 267) S dX10_readsForm_240 (by decide) hyp (fun hyp => ?_) (fun hyp => ?_)
    · refine g_aload_n (pc := 243) 1 S dX10_readsForm_243 rfl ?_
      refine g_getR (pc := 244) S dX10_readsForm_244 fl_X10_88 k0 ?_
      refine g_iload_n (pc := 247) 2 S dX10_readsForm_247 rfl ?_
      refine g_iconst (pc := 248) (v := (1 : Int32)) S dX10_readsForm_248 (by decide) ?_
      refine g_iadd (pc := 249) S dX10_readsForm_249 ?_
      refine g_iald (pc := 250) S dX10_readsForm_250 (kf_10_24 k0) hyp (fun x19 hyp => ?_)
      refine g_if_ne (pc := 251) (tgt := 267) S dX10_readsForm_251 (by decide) hyp (fun hyp => ?_) (fun hyp => ?_)
      · refine g_aload_n (pc := 254) 1 S dX10_readsForm_254 rfl ?_
        refine g_getR (pc := 255) S dX10_readsForm_255 fl_X10_88 k0 ?_
        refine g_iload_n (pc := 258) 2 S dX10_readsForm_258 rfl ?_
        refine g_iconst (pc := 259) (v := (2 : Int32)) S dX10_readsForm_259 (by decide) ?_
        refine g_iadd (pc := 260) S dX10_readsForm_260 ?_
        refine g_iald (pc := 261) S dX10_readsForm_261 (kf_10_24 k0) hyp (fun x20 hyp => ?_)
        refine g_if_ne (pc := 262) (tgt := 267) S dX10_readsForm_262 (by decide) hyp (fun hyp => ?_) (fun hyp => ?_)
        · refine g_iconst (pc := 265) (v := (0 : Int32)) S dX10_readsForm_265 (by decide) ?_
          have hyp := Option.some.inj hyp
          subst hyp
          exact g_zret (pc := 266) S F dX10_readsForm_266 (Or.inl rfl)
        · exact g_sub [1] rfl (o_X10_readsForm_b267 S k0  h hyp F)
      · exact g_sub [1] rfl (o_X10_readsForm_b267 S k0  h hyp F)
    · exact g_sub [1] rfl (o_X10_readsForm_b267 S k0  h hyp F)
set_option maxRecDepth 100000 in
set_option maxHeartbeats 4000000 in
theorem o_X10_readsForm_b226 {K : gK} (S : Cx K RX10 cX10_readsForm 5 3 81) {c0 : Nat} (k0 : kd c0 (10 + 10, 0)) (a1 : Int32) (h : Hp) {o : Int32 × Hp} (hyp : s_X10_readsForm_b226 c0 a1 h = some o) (F : Rt K (some .boolean) (some (.int o.1)) o.2) : Go K 226 [(0, .ref (ad K c0)), (1, .int a1)] [] h := by
  unfold s_X10_readsForm_b226 at hyp
  refine g_iconst (pc := 226) (v := (0 : Int32)) S dX10_readsForm_226 (by decide) ?_
  exact g_sub [0, 1] rfl (o_X10_readsForm_b227 S k0 a1 (0 : Int32) h hyp F)
set_option maxRecDepth 100000 in
set_option maxHeartbeats 4000000 in
theorem o_X10_readsForm_b96 {K : gK} (S : Cx K RX10 cX10_readsForm 5 3 81) {c0 : Nat} (k0 : kd c0 (10 + 10, 0)) (a1 : Int32) (t0 : Int32) (h : Hp) {o : Int32 × Hp} (hyp : s_X10_readsForm_b96 c0 a1 t0 h = some o) (F : Rt K (some .boolean) (some (.int o.1)) o.2) : Go K 96 [(0, .ref (ad K c0)), (1, .int a1)] [.int t0, .ref (ad K c0)] h := by
  unfold s_X10_readsForm_b96 at hyp
  refine g_bind hyp (fun y8 hy8 hyp => ?_)
  refine g_callV (pc := 96) (As := [.int t0]) (rest := []) S dX10_readsForm_96 k0 rfl tw_1277 tw_1278 tw_84 mw_X10_readsTerm (m_X10_readsTerm k0 t0 h hy8) rfl rfl (Nat.le_of_ble_eq_true rfl) (Nat.le_of_ble_eq_true rfl) (Nat.le_of_ble_eq_true rfl) ?_
  refine g_istore_n (pc := 99) (lv' := [(3, .int y8.1), (0, .ref (ad K c0)), (1, .int a1)]) S dX10_readsForm_99 rfl (by decide) rfl ?_
  refine g_bind hyp (fun e14 he14 hyp => ?_)
  refine g_sub [1, 2, 0] rfl (g_loop (f := fun s : Int32 × Hp => s_X10_readsForm_l100 c0 a1 s.1 s.2) (ρ := Int32 × Hp) (Hd := fun s : Int32 × Hp => Go K 100 [(0, .ref (ad K c0)), (1, .int a1), (3, .int s.1)] [] s.2) (Ex := fun e14 => Go K 158 [(0, .ref (ad K c0)), (1, .int a1), (3, .int e14.1)] [] e14.2) (fun s o h1 h2 h3 => o_X10_readsForm_l100 S k0 a1 s.1 s.2 h1 h2 h3) FUEL _ e14 he14 ?_)
  refine g_iload_n (pc := 158) 2 S dX10_readsForm_158 rfl ?_
  refine g_if_eq (pc := 159) (tgt := 171) S dX10_readsForm_159 (by decide) hyp (fun hyp => ?_) (fun hyp => ?_)
  · refine g_iconst (pc := 171) (v := (0 : Int32)) S dX10_readsForm_171 (by decide) ?_
    have hyp := Option.some.inj hyp
    subst hyp
    exact g_zret (pc := 172) S F dX10_readsForm_172 (Or.inl rfl)
  · refine g_aload_n (pc := 162) 0 S dX10_readsForm_162 rfl ?_
    refine g_bind hyp (fun y15 hy15 hyp => ?_)
    refine g_callV (pc := 163) (As := []) (rest := []) S dX10_readsForm_163 k0 rfl tw_1259 tw_1260 tw_78 mw_X10_here (m_X10_here k0  e14.2 hy15) rfl rfl (Nat.le_of_ble_eq_true rfl) (Nat.le_of_ble_eq_true rfl) (Nat.le_of_ble_eq_true rfl) ?_
    refine g_bipush (pc := 166) (v := (59 : Int32)) S dX10_readsForm_166 (by decide) ?_
    refine g_icmp_eq (pc := 168) (tgt := 173) S dX10_readsForm_168 (by decide) hyp (fun hyp => ?_) (fun hyp => ?_)
    · refine g_aload_n (pc := 173) 0 S dX10_readsForm_173 rfl ?_
      refine g_getR (pc := 174) S dX10_readsForm_174 fl_X10_88 k0 ?_
      refine g_iload_n (pc := 177) 1 S dX10_readsForm_177 rfl ?_
      refine g_iald (pc := 178) S dX10_readsForm_178 (kf_10_24 k0) hyp (fun x16 hyp => ?_)
      refine g_bipush (pc := 179) (v := (-3 : Int32)) S dX10_readsForm_179 (by decide) ?_
      refine g_iconst (pc := 181) (v := (3 : Int32)) S dX10_readsForm_181 (by decide) ?_
      refine g_bind hyp (fun y17 hy17 hyp => ?_)
      refine g_callS (pc := 182) (As := [.int x16, .int (-3 : Int32), .int (3 : Int32)]) (rest := []) S dX10_readsForm_182 tw_990 tw_991 mw_X10_in (m_X10_in  x16 (-3 : Int32) (3 : Int32) y15.2 hy17) rfl rfl (Nat.le_of_ble_eq_true rfl) (Nat.le_of_ble_eq_true rfl) (Nat.le_of_ble_eq_true rfl) ?_
      refine g_if_eq (pc := 185) (tgt := 226) S dX10_readsForm_185 (by decide) hyp (fun hyp => ?_) (fun hyp => ?_)
      · exact g_sub [0, 1] rfl (o_X10_readsForm_b226 S k0 a1 y15.2 hyp F)
      · refine g_aload_n (pc := 188) 0 S dX10_readsForm_188 rfl ?_
        refine g_getR (pc := 189) S dX10_readsForm_189 fl_X10_88 k0 ?_
        refine g_iload_n (pc := 192) 1 S dX10_readsForm_192 rfl ?_
        refine g_iconst (pc := 193) (v := (1 : Int32)) S dX10_readsForm_193 (by decide) ?_
        refine g_iadd (pc := 194) S dX10_readsForm_194 ?_
        refine g_iald (pc := 195) S dX10_readsForm_195 (kf_10_24 k0) hyp (fun x23 hyp => ?_)
        refine g_bipush (pc := 196) (v := (-3 : Int32)) S dX10_readsForm_196 (by decide) ?_
        refine g_iconst (pc := 198) (v := (3 : Int32)) S dX10_readsForm_198 (by decide) ?_
        refine g_bind hyp (fun y24 hy24 hyp => ?_)
        refine g_callS (pc := 199) (As := [.int x23, .int (-3 : Int32), .int (3 : Int32)]) (rest := []) S dX10_readsForm_199 tw_990 tw_991 mw_X10_in (m_X10_in  x23 (-3 : Int32) (3 : Int32) y15.2 hy24) rfl rfl (Nat.le_of_ble_eq_true rfl) (Nat.le_of_ble_eq_true rfl) (Nat.le_of_ble_eq_true rfl) ?_
        refine g_if_eq (pc := 202) (tgt := 226) S dX10_readsForm_202 (by decide) hyp (fun hyp => ?_) (fun hyp => ?_)
        · exact g_sub [0, 1] rfl (o_X10_readsForm_b226 S k0 a1 y15.2 hyp F)
        · refine g_aload_n (pc := 205) 0 S dX10_readsForm_205 rfl ?_
          refine g_getR (pc := 206) S dX10_readsForm_206 fl_X10_88 k0 ?_
          refine g_iload_n (pc := 209) 1 S dX10_readsForm_209 rfl ?_
          refine g_iconst (pc := 210) (v := (2 : Int32)) S dX10_readsForm_210 (by decide) ?_
          refine g_iadd (pc := 211) S dX10_readsForm_211 ?_
          refine g_iald (pc := 212) S dX10_readsForm_212 (kf_10_24 k0) hyp (fun x25 hyp => ?_)
          refine g_bipush (pc := 213) (v := (-3 : Int32)) S dX10_readsForm_213 (by decide) ?_
          refine g_iconst (pc := 215) (v := (3 : Int32)) S dX10_readsForm_215 (by decide) ?_
          refine g_bind hyp (fun y26 hy26 hyp => ?_)
          refine g_callS (pc := 216) (As := [.int x25, .int (-3 : Int32), .int (3 : Int32)]) (rest := []) S dX10_readsForm_216 tw_990 tw_991 mw_X10_in (m_X10_in  x25 (-3 : Int32) (3 : Int32) y15.2 hy26) rfl rfl (Nat.le_of_ble_eq_true rfl) (Nat.le_of_ble_eq_true rfl) (Nat.le_of_ble_eq_true rfl) ?_
          refine g_if_eq (pc := 219) (tgt := 226) S dX10_readsForm_219 (by decide) hyp (fun hyp => ?_) (fun hyp => ?_)
          · exact g_sub [0, 1] rfl (o_X10_readsForm_b226 S k0 a1 y15.2 hyp F)
          · refine g_iconst (pc := 222) (v := (1 : Int32)) S dX10_readsForm_222 (by decide) ?_
            refine g_goto (pc := 223) (tgt := 227) S dX10_readsForm_223 (by decide) ?_
            exact g_sub [0, 1] rfl (o_X10_readsForm_b227 S k0 a1 (1 : Int32) y15.2 hyp F)
    · refine g_iconst (pc := 171) (v := (0 : Int32)) S dX10_readsForm_171 (by decide) ?_
      have hyp := Option.some.inj hyp
      subst hyp
      exact g_zret (pc := 172) S F dX10_readsForm_172 (Or.inl rfl)
set_option maxRecDepth 100000 in
set_option maxHeartbeats 4000000 in
theorem o_X10_readsForm_b80 {K : gK} (S : Cx K RX10 cX10_readsForm 5 3 81) {c0 : Nat} (k0 : kd c0 (10 + 10, 0)) (a1 : Int32) (a2 : Int32) (t0 : Int32) (t1 : Int32) (h : Hp) {o : Int32 × Hp} (hyp : s_X10_readsForm_b80 c0 a1 a2 t0 t1 h = some o) (F : Rt K (some .boolean) (some (.int o.1)) o.2) : Go K 80 [(0, .ref (ad K c0)), (1, .int a1), (2, .int a2)] [.int t0, .int t1, .ref (ad K c0)] h := by
  unfold s_X10_readsForm_b80 at hyp
  refine g_iadd (pc := 80) S dX10_readsForm_80 ?_
  refine g_putI (pc := 81) S dX10_readsForm_81 fl_X10_339 k0 hyp (fun h7 hyp => ?_)
  refine g_aload_n (pc := 84) 0 S dX10_readsForm_84 rfl ?_
  refine g_iload_n (pc := 85) 2 S dX10_readsForm_85 rfl ?_
  refine g_bipush (pc := 86) (v := (45 : Int32)) S dX10_readsForm_86 (by decide) ?_
  refine g_icmp_ne (pc := 88) (tgt := 95) S dX10_readsForm_88 (by decide) hyp (fun hyp => ?_) (fun hyp => ?_)
  · refine g_iconst (pc := 91) (v := (-1 : Int32)) S dX10_readsForm_91 (by decide) ?_
    refine g_goto (pc := 92) (tgt := 96) S dX10_readsForm_92 (by decide) ?_
    exact g_sub [0, 1] rfl (o_X10_readsForm_b96 S k0 a1 (-1 : Int32) h7 hyp F)
  · refine g_iconst (pc := 95) (v := (1 : Int32)) S dX10_readsForm_95 (by decide) ?_
    exact g_sub [0, 1] rfl (o_X10_readsForm_b96 S k0 a1 (1 : Int32) h7 hyp F)
set_option maxRecDepth 100000 in
set_option maxHeartbeats 4000000 in
theorem o_X10_readsForm_b75 {K : gK} (S : Cx K RX10 cX10_readsForm 5 3 81) {c0 : Nat} (k0 : kd c0 (10 + 10, 0)) (a1 : Int32) (a2 : Int32) (t0 : Int32) (h : Hp) {o : Int32 × Hp} (hyp : s_X10_readsForm_b75 c0 a1 a2 t0 h = some o) (F : Rt K (some .boolean) (some (.int o.1)) o.2) : Go K 75 [(0, .ref (ad K c0)), (1, .int a1), (2, .int a2)] [.int t0, .ref (ad K c0)] h := by
  unfold s_X10_readsForm_b75 at hyp
  refine g_iconst (pc := 75) (v := (1 : Int32)) S dX10_readsForm_75 (by decide) ?_
  refine g_goto (pc := 76) (tgt := 80) S dX10_readsForm_76 (by decide) ?_
  exact g_sub [0, 1, 2] rfl (o_X10_readsForm_b80 S k0 a1 a2 (1 : Int32) t0 h hyp F)
set_option maxRecDepth 100000 in
set_option maxHeartbeats 4000000 in
theorem o_X10_readsForm {K : gK} (S : Cx K RX10 cX10_readsForm 5 3 81) {c0 : Nat} (k0 : kd c0 (10 + 10, 0))  (h : Hp) {o : Int32 × Hp} (hyp : s_X10_readsForm c0  h = some o) (F : Rt K (some .boolean) (some (.int o.1)) o.2) : Go K 0 [(0, .ref (ad K c0))] [] h := by
  unfold s_X10_readsForm at hyp
  refine g_aload_n (pc := 0) 0 S dX10_readsForm_0 rfl ?_
  refine g_getI (pc := 1) S dX10_readsForm_1 fl_X10_357 k0 ?_
  refine g_bipush (pc := 4) (v := (8 : Int32)) S dX10_readsForm_4 (by decide) ?_
  refine g_icmp_ne (pc := 6) (tgt := 11) S dX10_readsForm_6 (by decide) hyp (fun hyp => ?_) (fun hyp => ?_)
  · refine g_iconst (pc := 9) (v := (0 : Int32)) S dX10_readsForm_9 (by decide) ?_
    have hyp := Option.some.inj hyp
    subst hyp
    exact g_zret (pc := 10) S F dX10_readsForm_10 (Or.inl rfl)
  · refine g_aload_n (pc := 11) 0 S dX10_readsForm_11 rfl ?_
    refine g_dup (pc := 12) S dX10_readsForm_12 rfl ?_
    refine g_getI (pc := 13) S dX10_readsForm_13 fl_X10_339 k0 ?_
    refine g_iconst (pc := 16) (v := (1 : Int32)) S dX10_readsForm_16 (by decide) ?_
    refine g_iadd (pc := 17) S dX10_readsForm_17 ?_
    refine g_putI (pc := 18) S dX10_readsForm_18 fl_X10_339 k0 hyp (fun h1 hyp => ?_)
    refine g_iconst (pc := 21) (v := (3 : Int32)) S dX10_readsForm_21 (by decide) ?_
    refine g_aload_n (pc := 22) 0 S dX10_readsForm_22 rfl ?_
    refine g_getI (pc := 23) S dX10_readsForm_23 fl_X10_357 k0 ?_
    refine g_imul (pc := 26) S dX10_readsForm_26 ?_
    refine g_lti (C := fun v1_2 => Go K 27 [(0, .ref (ad K c0))] [.int v1_2] h1) hyp (fun v1_2 hyp => ?_)
    refine g_istore_n (pc := 27) (lv' := [(1, .int v1_2), (0, .ref (ad K c0))]) S dX10_readsForm_27 rfl (by decide) rfl ?_
    refine g_aload_n (pc := 28) 1 S dX10_readsForm_28 rfl ?_
    refine g_getR (pc := 29) S dX10_readsForm_29 fl_X10_88 k0 ?_
    refine g_iload_n (pc := 32) 0 S dX10_readsForm_32 rfl ?_
    refine g_iconst (pc := 33) (v := (0 : Int32)) S dX10_readsForm_33 (by decide) ?_
    refine g_iast (pc := 34) S dX10_readsForm_34 (kf_10_24 k0) hyp (fun h3 hyp => ?_)
    refine g_aload_n (pc := 35) 1 S dX10_readsForm_35 rfl ?_
    refine g_getR (pc := 36) S dX10_readsForm_36 fl_X10_88 k0 ?_
    refine g_iload_n (pc := 39) 0 S dX10_readsForm_39 rfl ?_
    refine g_iconst (pc := 40) (v := (1 : Int32)) S dX10_readsForm_40 (by decide) ?_
    refine g_iadd (pc := 41) S dX10_readsForm_41 ?_
    refine g_iconst (pc := 42) (v := (0 : Int32)) S dX10_readsForm_42 (by decide) ?_
    refine g_iast (pc := 43) S dX10_readsForm_43 (kf_10_24 k0) hyp (fun h4 hyp => ?_)
    refine g_aload_n (pc := 44) 1 S dX10_readsForm_44 rfl ?_
    refine g_getR (pc := 45) S dX10_readsForm_45 fl_X10_88 k0 ?_
    refine g_iload_n (pc := 48) 0 S dX10_readsForm_48 rfl ?_
    refine g_iconst (pc := 49) (v := (2 : Int32)) S dX10_readsForm_49 (by decide) ?_
    refine g_iadd (pc := 50) S dX10_readsForm_50 ?_
    refine g_iconst (pc := 51) (v := (0 : Int32)) S dX10_readsForm_51 (by decide) ?_
    refine g_iast (pc := 52) S dX10_readsForm_52 (kf_10_24 k0) hyp (fun h5 hyp => ?_)
    refine g_aload_n (pc := 53) 1 S dX10_readsForm_53 rfl ?_
    refine g_bind hyp (fun y6 hy6 hyp => ?_)
    refine g_callV (pc := 54) (As := []) (rest := []) S dX10_readsForm_54 k0 rfl tw_1259 tw_1260 tw_78 mw_X10_here (m_X10_here k0  h5 hy6) rfl rfl (Nat.le_of_ble_eq_true rfl) (Nat.le_of_ble_eq_true rfl) (Nat.le_of_ble_eq_true rfl) ?_
    refine g_istore_n (pc := 57) (lv' := [(2, .int y6.1), (1, .int v1_2), (0, .ref (ad K c0))]) S dX10_readsForm_57 rfl (by decide) rfl ?_
    refine g_aload_n (pc := 58) 2 S dX10_readsForm_58 rfl ?_
    refine g_dup (pc := 59) S dX10_readsForm_59 rfl ?_
    refine g_getI (pc := 60) S dX10_readsForm_60 fl_X10_339 k0 ?_
    refine g_iload_n (pc := 63) 0 S dX10_readsForm_63 rfl ?_
    refine g_bipush (pc := 64) (v := (43 : Int32)) S dX10_readsForm_64 (by decide) ?_
    refine g_icmp_eq (pc := 66) (tgt := 75) S dX10_readsForm_66 (by decide) hyp (fun hyp => ?_) (fun hyp => ?_)
    · exact g_sub [2, 1, 0] rfl (o_X10_readsForm_b75 S k0 v1_2 y6.1 (y6.2.1 c0 44) y6.2 hyp F)
    · refine g_iload_n (pc := 69) 0 S dX10_readsForm_69 rfl ?_
      refine g_bipush (pc := 70) (v := (45 : Int32)) S dX10_readsForm_70 (by decide) ?_
      refine g_icmp_ne (pc := 72) (tgt := 79) S dX10_readsForm_72 (by decide) hyp (fun hyp => ?_) (fun hyp => ?_)
      · exact g_sub [2, 1, 0] rfl (o_X10_readsForm_b75 S k0 v1_2 y6.1 (y6.2.1 c0 44) y6.2 hyp F)
      · refine g_iconst (pc := 79) (v := (0 : Int32)) S dX10_readsForm_79 (by decide) ?_
        exact g_sub [2, 1, 0] rfl (o_X10_readsForm_b80 S k0 v1_2 y6.1 (0 : Int32) (y6.2.1 c0 44) y6.2 hyp F)
theorem m_X10_readsForm {l : Launch} {D : va_G} {cT : Nat → ClassId} {aD : Nat → Nat} {c0 : Nat} (k0 : kd c0 (10 + 10, 0))  (h : Hp) {o : Int32 × Hp} (hyp : s_X10_readsForm c0  h = some o) : Ok l D cT aD yX10_readsForm cX10_readsForm 5 (some .boolean) 3 81 [.ref (aD c0)] h (some (.int o.1)) o.2 :=
  Ok.of (by decide +kernel) rfl (Nat.le_of_ble_eq_true rfl) (fun K e1 e2 e3 e4 S F => by subst e1; exact o_X10_readsForm S k0  h hyp F)
-- BoundProofsModel readsBound ()Z
noncomputable def s_X10_readsBound_b91 (c0 : Nat) (a1 : Int32) (t0 : Int32) (h : Hp) : Option (Int32 × Hp) :=
  (s_X10_number c0 (0 : Int32) (50 : Int32) h).bind fun y8 =>
  if y8.1 = 0 then (some ((0 : Int32), y8.2))
  else (stI y8.2 (c0 + 25) 30 (a1 + (2 : Int32)) (t0 * (y8.2.1 c0 45)) fun h9 =>
  lt (sI h9 c0 49 ((h9.1 c0 49) + (1 : Int32))) fun h10 =>
  (s_X10_takes c0 (59 : Int32) h10).bind fun y11 =>
  ckB y11.1 <|
  some (y11.1, y11.2))
noncomputable def s_X10_readsBound (c0 : Nat)  (h : Hp) : Option (Int32 × Hp) :=
  if (h.1 c0 49) = (10 : Int32) then (some ((0 : Int32), h))
  else (lt (sI h c0 44 ((h.1 c0 44) + (1 : Int32))) fun h1 =>
  lt ((3 : Int32) * (h1.1 c0 49)) fun v1_2 =>
  (s_X10_number c0 (0 : Int32) ((h1.1 c0 47) - (1 : Int32)) h1).bind fun y3 =>
  if y3.1 = 0 then (some ((0 : Int32), y3.2))
  else (stI y3.2 (c0 + 25) 30 v1_2 (y3.2.1 c0 45) fun h4 =>
  (s_X10_number c0 (0 : Int32) (4 : Int32) h4).bind fun y5 =>
  if y5.1 = 0 then (some ((0 : Int32), y5.2))
  else (stI y5.2 (c0 + 25) 30 (v1_2 + (1 : Int32)) (y5.2.1 c0 45) fun h6 =>
  (s_X10_takes c0 (45 : Int32) h6).bind fun y7 =>
  if y7.1 = 0 then (s_X10_readsBound_b91 c0 v1_2 (1 : Int32) y7.2)
  else (s_X10_readsBound_b91 c0 v1_2 (-1 : Int32) y7.2))))
set_option maxRecDepth 100000 in
set_option maxHeartbeats 4000000 in
theorem o_X10_readsBound_b91 {K : gK} (S : Cx K RX10 cX10_readsBound 3 2 54) {c0 : Nat} (k0 : kd c0 (10 + 10, 0)) (a1 : Int32) (t0 : Int32) (h : Hp) {o : Int32 × Hp} (hyp : s_X10_readsBound_b91 c0 a1 t0 h = some o) (F : Rt K (some .boolean) (some (.int o.1)) o.2) : Go K 91 [(0, .ref (ad K c0)), (1, .int a1)] [.int t0] h := by
  unfold s_X10_readsBound_b91 at hyp
  refine g_istore_n (pc := 91) (lv' := [(2, .int t0), (0, .ref (ad K c0)), (1, .int a1)]) S dX10_readsBound_91 rfl (by decide) rfl ?_
  refine g_aload_n (pc := 92) 1 S dX10_readsBound_92 rfl ?_
  refine g_iconst (pc := 93) (v := (0 : Int32)) S dX10_readsBound_93 (by decide) ?_
  refine g_bipush (pc := 94) (v := (50 : Int32)) S dX10_readsBound_94 (by decide) ?_
  refine g_bind hyp (fun y8 hy8 hyp => ?_)
  refine g_callV (pc := 96) (As := [.int (0 : Int32), .int (50 : Int32)]) (rest := []) S dX10_readsBound_96 k0 rfl tw_1268 tw_1269 tw_81 mw_X10_number (m_X10_number k0 (0 : Int32) (50 : Int32) h hy8) rfl rfl (Nat.le_of_ble_eq_true rfl) (Nat.le_of_ble_eq_true rfl) (Nat.le_of_ble_eq_true rfl) ?_
  refine g_if_ne (pc := 99) (tgt := 104) S dX10_readsBound_99 (by decide) hyp (fun hyp => ?_) (fun hyp => ?_)
  · refine g_iconst (pc := 102) (v := (0 : Int32)) S dX10_readsBound_102 (by decide) ?_
    have hyp := Option.some.inj hyp
    subst hyp
    exact g_zret (pc := 103) S F dX10_readsBound_103 (Or.inl rfl)
  · refine g_aload_n (pc := 104) 1 S dX10_readsBound_104 rfl ?_
    refine g_getR (pc := 105) S dX10_readsBound_105 fl_X10_91 k0 ?_
    refine g_iload_n (pc := 108) 2 S dX10_readsBound_108 rfl ?_
    refine g_iconst (pc := 109) (v := (2 : Int32)) S dX10_readsBound_109 (by decide) ?_
    refine g_iadd (pc := 110) S dX10_readsBound_110 ?_
    refine g_iload_n (pc := 111) 0 S dX10_readsBound_111 rfl ?_
    refine g_aload_n (pc := 112) 1 S dX10_readsBound_112 rfl ?_
    refine g_getI (pc := 113) S dX10_readsBound_113 fl_X10_345 k0 ?_
    refine g_imul (pc := 116) S dX10_readsBound_116 ?_
    refine g_iast (pc := 117) S dX10_readsBound_117 (kf_10_25 k0) hyp (fun h9 hyp => ?_)
    refine g_aload_n (pc := 118) 1 S dX10_readsBound_118 rfl ?_
    refine g_dup (pc := 119) S dX10_readsBound_119 rfl ?_
    refine g_getI (pc := 120) S dX10_readsBound_120 fl_X10_363 k0 ?_
    refine g_iconst (pc := 123) (v := (1 : Int32)) S dX10_readsBound_123 (by decide) ?_
    refine g_iadd (pc := 124) S dX10_readsBound_124 ?_
    refine g_putI (pc := 125) S dX10_readsBound_125 fl_X10_363 k0 hyp (fun h10 hyp => ?_)
    refine g_aload_n (pc := 128) 1 S dX10_readsBound_128 rfl ?_
    refine g_bipush (pc := 129) (v := (59 : Int32)) S dX10_readsBound_129 (by decide) ?_
    refine g_bind hyp (fun y11 hy11 hyp => ?_)
    refine g_callV (pc := 131) (As := [.int (59 : Int32)]) (rest := []) S dX10_readsBound_131 k0 rfl tw_1271 tw_1272 tw_82 mw_X10_takes (m_X10_takes k0 (59 : Int32) h10 hy11) rfl rfl (Nat.le_of_ble_eq_true rfl) (Nat.le_of_ble_eq_true rfl) (Nat.le_of_ble_eq_true rfl) ?_
    refine g_ckB hyp (fun hz hyp => ?_)
    have hyp := Option.some.inj hyp
    subst hyp
    exact g_zret (pc := 134) S F dX10_readsBound_134 hz
set_option maxRecDepth 100000 in
set_option maxHeartbeats 4000000 in
theorem o_X10_readsBound {K : gK} (S : Cx K RX10 cX10_readsBound 3 2 54) {c0 : Nat} (k0 : kd c0 (10 + 10, 0))  (h : Hp) {o : Int32 × Hp} (hyp : s_X10_readsBound c0  h = some o) (F : Rt K (some .boolean) (some (.int o.1)) o.2) : Go K 0 [(0, .ref (ad K c0))] [] h := by
  unfold s_X10_readsBound at hyp
  refine g_aload_n (pc := 0) 0 S dX10_readsBound_0 rfl ?_
  refine g_getI (pc := 1) S dX10_readsBound_1 fl_X10_363 k0 ?_
  refine g_bipush (pc := 4) (v := (10 : Int32)) S dX10_readsBound_4 (by decide) ?_
  refine g_icmp_ne (pc := 6) (tgt := 11) S dX10_readsBound_6 (by decide) hyp (fun hyp => ?_) (fun hyp => ?_)
  · refine g_iconst (pc := 9) (v := (0 : Int32)) S dX10_readsBound_9 (by decide) ?_
    have hyp := Option.some.inj hyp
    subst hyp
    exact g_zret (pc := 10) S F dX10_readsBound_10 (Or.inl rfl)
  · refine g_aload_n (pc := 11) 0 S dX10_readsBound_11 rfl ?_
    refine g_dup (pc := 12) S dX10_readsBound_12 rfl ?_
    refine g_getI (pc := 13) S dX10_readsBound_13 fl_X10_339 k0 ?_
    refine g_iconst (pc := 16) (v := (1 : Int32)) S dX10_readsBound_16 (by decide) ?_
    refine g_iadd (pc := 17) S dX10_readsBound_17 ?_
    refine g_putI (pc := 18) S dX10_readsBound_18 fl_X10_339 k0 hyp (fun h1 hyp => ?_)
    refine g_iconst (pc := 21) (v := (3 : Int32)) S dX10_readsBound_21 (by decide) ?_
    refine g_aload_n (pc := 22) 0 S dX10_readsBound_22 rfl ?_
    refine g_getI (pc := 23) S dX10_readsBound_23 fl_X10_363 k0 ?_
    refine g_imul (pc := 26) S dX10_readsBound_26 ?_
    refine g_lti (C := fun v1_2 => Go K 27 [(0, .ref (ad K c0))] [.int v1_2] h1) hyp (fun v1_2 hyp => ?_)
    refine g_istore_n (pc := 27) (lv' := [(1, .int v1_2), (0, .ref (ad K c0))]) S dX10_readsBound_27 rfl (by decide) rfl ?_
    refine g_aload_n (pc := 28) 1 S dX10_readsBound_28 rfl ?_
    refine g_iconst (pc := 29) (v := (0 : Int32)) S dX10_readsBound_29 (by decide) ?_
    refine g_aload_n (pc := 30) 1 S dX10_readsBound_30 rfl ?_
    refine g_getI (pc := 31) S dX10_readsBound_31 fl_X10_357 k0 ?_
    refine g_iconst (pc := 34) (v := (1 : Int32)) S dX10_readsBound_34 (by decide) ?_
    refine g_isub (pc := 35) S dX10_readsBound_35 ?_
    refine g_bind hyp (fun y3 hy3 hyp => ?_)
    refine g_callV (pc := 36) (As := [.int (0 : Int32), .int ((h1.1 c0 47) - (1 : Int32))]) (rest := []) S dX10_readsBound_36 k0 rfl tw_1268 tw_1269 tw_81 mw_X10_number (m_X10_number k0 (0 : Int32) ((h1.1 c0 47) - (1 : Int32)) h1 hy3) rfl rfl (Nat.le_of_ble_eq_true rfl) (Nat.le_of_ble_eq_true rfl) (Nat.le_of_ble_eq_true rfl) ?_
    refine g_if_ne (pc := 39) (tgt := 44) S dX10_readsBound_39 (by decide) hyp (fun hyp => ?_) (fun hyp => ?_)
    · refine g_iconst (pc := 42) (v := (0 : Int32)) S dX10_readsBound_42 (by decide) ?_
      have hyp := Option.some.inj hyp
      subst hyp
      exact g_zret (pc := 43) S F dX10_readsBound_43 (Or.inl rfl)
    · refine g_aload_n (pc := 44) 1 S dX10_readsBound_44 rfl ?_
      refine g_getR (pc := 45) S dX10_readsBound_45 fl_X10_91 k0 ?_
      refine g_iload_n (pc := 48) 0 S dX10_readsBound_48 rfl ?_
      refine g_aload_n (pc := 49) 1 S dX10_readsBound_49 rfl ?_
      refine g_getI (pc := 50) S dX10_readsBound_50 fl_X10_345 k0 ?_
      refine g_iast (pc := 53) S dX10_readsBound_53 (kf_10_25 k0) hyp (fun h4 hyp => ?_)
      refine g_aload_n (pc := 54) 1 S dX10_readsBound_54 rfl ?_
      refine g_iconst (pc := 55) (v := (0 : Int32)) S dX10_readsBound_55 (by decide) ?_
      refine g_iconst (pc := 56) (v := (4 : Int32)) S dX10_readsBound_56 (by decide) ?_
      refine g_bind hyp (fun y5 hy5 hyp => ?_)
      refine g_callV (pc := 57) (As := [.int (0 : Int32), .int (4 : Int32)]) (rest := []) S dX10_readsBound_57 k0 rfl tw_1268 tw_1269 tw_81 mw_X10_number (m_X10_number k0 (0 : Int32) (4 : Int32) h4 hy5) rfl rfl (Nat.le_of_ble_eq_true rfl) (Nat.le_of_ble_eq_true rfl) (Nat.le_of_ble_eq_true rfl) ?_
      refine g_if_ne (pc := 60) (tgt := 65) S dX10_readsBound_60 (by decide) hyp (fun hyp => ?_) (fun hyp => ?_)
      · refine g_iconst (pc := 63) (v := (0 : Int32)) S dX10_readsBound_63 (by decide) ?_
        have hyp := Option.some.inj hyp
        subst hyp
        exact g_zret (pc := 64) S F dX10_readsBound_64 (Or.inl rfl)
      · refine g_aload_n (pc := 65) 1 S dX10_readsBound_65 rfl ?_
        refine g_getR (pc := 66) S dX10_readsBound_66 fl_X10_91 k0 ?_
        refine g_iload_n (pc := 69) 0 S dX10_readsBound_69 rfl ?_
        refine g_iconst (pc := 70) (v := (1 : Int32)) S dX10_readsBound_70 (by decide) ?_
        refine g_iadd (pc := 71) S dX10_readsBound_71 ?_
        refine g_aload_n (pc := 72) 1 S dX10_readsBound_72 rfl ?_
        refine g_getI (pc := 73) S dX10_readsBound_73 fl_X10_345 k0 ?_
        refine g_iast (pc := 76) S dX10_readsBound_76 (kf_10_25 k0) hyp (fun h6 hyp => ?_)
        refine g_aload_n (pc := 77) 1 S dX10_readsBound_77 rfl ?_
        refine g_bipush (pc := 78) (v := (45 : Int32)) S dX10_readsBound_78 (by decide) ?_
        refine g_bind hyp (fun y7 hy7 hyp => ?_)
        refine g_callV (pc := 80) (As := [.int (45 : Int32)]) (rest := []) S dX10_readsBound_80 k0 rfl tw_1271 tw_1272 tw_82 mw_X10_takes (m_X10_takes k0 (45 : Int32) h6 hy7) rfl rfl (Nat.le_of_ble_eq_true rfl) (Nat.le_of_ble_eq_true rfl) (Nat.le_of_ble_eq_true rfl) ?_
        refine g_if_eq (pc := 83) (tgt := 90) S dX10_readsBound_83 (by decide) hyp (fun hyp => ?_) (fun hyp => ?_)
        · refine g_iconst (pc := 90) (v := (1 : Int32)) S dX10_readsBound_90 (by decide) ?_
          exact g_sub [1, 0] rfl (o_X10_readsBound_b91 S k0 v1_2 (1 : Int32) y7.2 hyp F)
        · refine g_iconst (pc := 86) (v := (-1 : Int32)) S dX10_readsBound_86 (by decide) ?_
          refine g_goto (pc := 87) (tgt := 91) S dX10_readsBound_87 (by decide) ?_
          exact g_sub [1, 0] rfl (o_X10_readsBound_b91 S k0 v1_2 (-1 : Int32) y7.2 hyp F)
theorem m_X10_readsBound {l : Launch} {D : va_G} {cT : Nat → ClassId} {aD : Nat → Nat} {c0 : Nat} (k0 : kd c0 (10 + 10, 0))  (h : Hp) {o : Int32 × Hp} (hyp : s_X10_readsBound c0  h = some o) : Ok l D cT aD yX10_readsBound cX10_readsBound 3 (some .boolean) 2 54 [.ref (aD c0)] h (some (.int o.1)) o.2 :=
  Ok.of (by decide +kernel) rfl (Nat.le_of_ble_eq_true rfl) (fun K e1 e2 e3 e4 S F => by subst e1; exact o_X10_readsBound S k0  h hyp F)
-- BoundProofsModel readsItem (I)Z
noncomputable def s_X10_readsItem (c0 : Nat) (a1 : Int32) (h : Hp) : Option (Int32 × Hp) :=
  (s_X10_here c0  h).bind fun y1 =>
  if y1.1 = (110 : Int32) then ((s_X10_readsVariables c0 a1 y1.2).bind fun y2 =>
  ckB y2.1 <|
  some (y2.1, y2.2))
  else (if y1.1 = (102 : Int32) then ((s_X10_readsForm c0  y1.2).bind fun y3 =>
  ckB y3.1 <|
  some (y3.1, y3.2))
  else (if y1.1 = (98 : Int32) then ((s_X10_readsBound c0  y1.2).bind fun y4 =>
  if y4.1 = 0 then (some ((0 : Int32), y4.2))
  else (some ((1 : Int32), y4.2)))
  else (some ((0 : Int32), y1.2))))
set_option maxRecDepth 100000 in
set_option maxHeartbeats 4000000 in
theorem o_X10_readsItem {K : gK} (S : Cx K RX10 cX10_readsItem 3 4 109) {c0 : Nat} (k0 : kd c0 (10 + 10, 0)) (a1 : Int32) (h : Hp) {o : Int32 × Hp} (hyp : s_X10_readsItem c0 a1 h = some o) (F : Rt K (some .boolean) (some (.int o.1)) o.2) : Go K 0 [(0, .ref (ad K c0)), (1, .int a1)] [] h := by
  unfold s_X10_readsItem at hyp
  refine g_aload_n (pc := 0) 0 S dX10_readsItem_0 rfl ?_
  refine g_bind hyp (fun y1 hy1 hyp => ?_)
  refine g_callV (pc := 1) (As := []) (rest := []) S dX10_readsItem_1 k0 rfl tw_1259 tw_1260 tw_78 mw_X10_here (m_X10_here k0  h hy1) rfl rfl (Nat.le_of_ble_eq_true rfl) (Nat.le_of_ble_eq_true rfl) (Nat.le_of_ble_eq_true rfl) ?_
  refine g_istore_n (pc := 4) (lv' := [(2, .int y1.1), (0, .ref (ad K c0)), (1, .int a1)]) S dX10_readsItem_4 rfl (by decide) rfl ?_
  refine g_iload_n (pc := 5) 0 S dX10_readsItem_5 rfl ?_
  refine g_bipush (pc := 6) (v := (110 : Int32)) S dX10_readsItem_6 (by decide) ?_
  refine g_icmp_ne (pc := 8) (tgt := 19) S dX10_readsItem_8 (by decide) hyp (fun hyp => ?_) (fun hyp => ?_)
  · refine g_aload_n (pc := 11) 1 S dX10_readsItem_11 rfl ?_
    refine g_iload_n (pc := 12) 2 S dX10_readsItem_12 rfl ?_
    refine g_bind hyp (fun y2 hy2 hyp => ?_)
    refine g_callV (pc := 13) (As := [.int a1]) (rest := []) S dX10_readsItem_13 k0 rfl tw_1265 tw_1266 tw_80 mw_X10_readsVariables (m_X10_readsVariables k0 a1 y1.2 hy2) rfl rfl (Nat.le_of_ble_eq_true rfl) (Nat.le_of_ble_eq_true rfl) (Nat.le_of_ble_eq_true rfl) ?_
    refine g_goto (pc := 16) (tgt := 50) S dX10_readsItem_16 (by decide) ?_
    refine g_ckB hyp (fun hz hyp => ?_)
    have hyp := Option.some.inj hyp
    subst hyp
    exact g_zret (pc := 50) S F dX10_readsItem_50 hz
  · refine g_iload_n (pc := 19) 0 S dX10_readsItem_19 rfl ?_
    refine g_bipush (pc := 20) (v := (102 : Int32)) S dX10_readsItem_20 (by decide) ?_
    refine g_icmp_ne (pc := 22) (tgt := 32) S dX10_readsItem_22 (by decide) hyp (fun hyp => ?_) (fun hyp => ?_)
    · refine g_aload_n (pc := 25) 1 S dX10_readsItem_25 rfl ?_
      refine g_bind hyp (fun y3 hy3 hyp => ?_)
      refine g_callV (pc := 26) (As := []) (rest := []) S dX10_readsItem_26 k0 rfl tw_1274 tw_1275 tw_83 mw_X10_readsForm (m_X10_readsForm k0  y1.2 hy3) rfl rfl (Nat.le_of_ble_eq_true rfl) (Nat.le_of_ble_eq_true rfl) (Nat.le_of_ble_eq_true rfl) ?_
      refine g_goto (pc := 29) (tgt := 50) S dX10_readsItem_29 (by decide) ?_
      refine g_ckB hyp (fun hz hyp => ?_)
      have hyp := Option.some.inj hyp
      subst hyp
      exact g_zret (pc := 50) S F dX10_readsItem_50 hz
    · refine g_iload_n (pc := 32) 0 S dX10_readsItem_32 rfl ?_
      refine g_bipush (pc := 33) (v := (98 : Int32)) S dX10_readsItem_33 (by decide) ?_
      refine g_icmp_ne (pc := 35) (tgt := 49) S dX10_readsItem_35 (by decide) hyp (fun hyp => ?_) (fun hyp => ?_)
      · refine g_aload_n (pc := 38) 1 S dX10_readsItem_38 rfl ?_
        refine g_bind hyp (fun y4 hy4 hyp => ?_)
        refine g_callV (pc := 39) (As := []) (rest := []) S dX10_readsItem_39 k0 rfl tw_1280 tw_1281 tw_85 mw_X10_readsBound (m_X10_readsBound k0  y1.2 hy4) rfl rfl (Nat.le_of_ble_eq_true rfl) (Nat.le_of_ble_eq_true rfl) (Nat.le_of_ble_eq_true rfl) ?_
        refine g_if_eq (pc := 42) (tgt := 49) S dX10_readsItem_42 (by decide) hyp (fun hyp => ?_) (fun hyp => ?_)
        · refine g_iconst (pc := 49) (v := (0 : Int32)) S dX10_readsItem_49 (by decide) ?_
          have hyp := Option.some.inj hyp
          subst hyp
          exact g_zret (pc := 50) S F dX10_readsItem_50 (Or.inl rfl)
        · refine g_iconst (pc := 45) (v := (1 : Int32)) S dX10_readsItem_45 (by decide) ?_
          refine g_goto (pc := 46) (tgt := 50) S dX10_readsItem_46 (by decide) ?_
          have hyp := Option.some.inj hyp
          subst hyp
          exact g_zret (pc := 50) S F dX10_readsItem_50 (Or.inr rfl)
      · refine g_iconst (pc := 49) (v := (0 : Int32)) S dX10_readsItem_49 (by decide) ?_
        have hyp := Option.some.inj hyp
        subst hyp
        exact g_zret (pc := 50) S F dX10_readsItem_50 (Or.inl rfl)
theorem m_X10_readsItem {l : Launch} {D : va_G} {cT : Nat → ClassId} {aD : Nat → Nat} {c0 : Nat} (k0 : kd c0 (10 + 10, 0)) (a1 : Int32) (h : Hp) {o : Int32 × Hp} (hyp : s_X10_readsItem c0 a1 h = some o) : Ok l D cT aD yX10_readsItem cX10_readsItem 3 (some .boolean) 4 109 [.ref (aD c0), .int a1] h (some (.int o.1)) o.2 :=
  Ok.of (by decide +kernel) rfl (Nat.le_of_ble_eq_true rfl) (fun K e1 e2 e3 e4 S F => by subst e1; exact o_X10_readsItem S k0 a1 h hyp F)
-- BoundProofsModel tells ()I
noncomputable def s_X10_tells_l22 (c0 : Nat) (a1 : Int32) (h : Hp) : Option ((Int32 × Hp) ⊕ ((Int32 × Hp) ⊕ (Int32 × Hp))) :=
  (s_X10_here c0  h).bind fun y5 =>
  if y5.1 = (-9 : Int32) then (some (.inr (.inl (a1, y5.2))))
  else ((s_X10_readsItem c0 a1 y5.2).bind fun y6 =>
  if y6.1 = 0 then (some (.inr (.inr (((-10 : Int32) - (y6.2.1 c0 44)), y6.2))))
  else (lt (a1 + (1 : Int32)) fun v1_7 =>
  some (.inl (v1_7, y6.2))))
noncomputable def s_X10_tells_l103 (c0 : Nat) (a1 : Int32) (a2 : Int32) (h : Hp) : Option ((Int32 × Hp) ⊕ (Hp)) :=
  if a2 < (24 : Int32) then (ldI h (c0 + 24) 24 a2 fun x17 =>
  stI h (c0 + 1) 24 a2 x17 fun h18 =>
  lt (a2 + (1 : Int32)) fun v2_19 =>
  some (.inl (v2_19, h18)))
  else (some (.inr (h)))
noncomputable def s_X10_tells_l129 (c0 : Nat) (a1 : Int32) (a2 : Int32) (h : Hp) : Option ((Int32 × Hp) ⊕ (Hp)) :=
  if a2 < (30 : Int32) then (ldI h (c0 + 25) 30 a2 fun x21 =>
  stI h (c0 + 2) 30 a2 x21 fun h22 =>
  lt (a2 + (1 : Int32)) fun v2_23 =>
  some (.inl (v2_23, h22)))
  else (some (.inr (h)))
noncomputable def s_X10_tells (c0 : Nat)  (h : Hp) : Option (Int32 × Hp) :=
  lt (sI h c0 44 (0 : Int32)) fun h1 =>
  lt (sI h1 c0 46 (2 : Int32)) fun h2 =>
  lt (sI h2 c0 47 (0 : Int32)) fun h3 =>
  lt (sI h3 c0 49 (0 : Int32)) fun h4 =>
  (iter (fun s : Int32 × Hp => s_X10_tells_l22 c0 s.1 s.2) FUEL ((0 : Int32), h4)).bind (Sum.elim (fun t9 => lt (sI t9.2 c0 0 (t9.2.1 c0 46)) fun h10 =>
  lt (sI h10 c0 1 (h10.1 c0 47)) fun h11 =>
  lt (sI h11 c0 3 (h11.1 c0 49)) fun h12 =>
  lt (sI h12 c0 5 (0 : Int32)) fun h13 =>
  stI h13 (c0 + 4) 2 (0 : Int32) (0 : Int32) fun h14 =>
  stI h14 (c0 + 4) 2 (1 : Int32) (0 : Int32) fun h15 =>
  lt (sI h15 c0 43 (0 : Int32)) fun h16 =>
  (iter (fun s : Int32 × Hp => s_X10_tells_l103 c0 t9.1 s.1 s.2) FUEL ((0 : Int32), h16)).bind fun e20 =>
  (iter (fun s : Int32 × Hp => s_X10_tells_l129 c0 t9.1 s.1 s.2) FUEL ((0 : Int32), e20)).bind fun e24 =>
  some (t9.1, e24))
  (fun t25 => some t25))
set_option maxRecDepth 100000 in
set_option maxHeartbeats 4000000 in
theorem o_X10_tells_l22 {K : gK} (S : Cx K RX10 cX10_tells 3 5 135) {c0 : Nat} (k0 : kd c0 (10 + 10, 0)) (a1 : Int32) (h : Hp) {o : (Int32 × Hp) ⊕ ((Int32 × Hp) ⊕ (Int32 × Hp))} (hyp : s_X10_tells_l22 c0 a1 h = some o) (hin : ∀ s', o = .inl s' → Go K 22 [(0, .ref (ad K c0)), (1, .int s'.1)] [] s'.2) (hex0 : ∀ s', o = .inr (.inl s') → Go K 53 [(0, .ref (ad K c0)), (1, .int s'.1)] [] s'.2) (hret : ∀ x', o = .inr (.inr x') → Rt K (some .int) (some (.int x'.1)) x'.2) : Go K 22 [(0, .ref (ad K c0)), (1, .int a1)] [] h := by
  unfold s_X10_tells_l22 at hyp
  refine g_aload_n (pc := 22) 0 S dX10_tells_22 rfl ?_
  refine g_bind hyp (fun y5 hy5 hyp => ?_)
  refine g_callV (pc := 23) (As := []) (rest := []) S dX10_tells_23 k0 rfl tw_1259 tw_1260 tw_78 mw_X10_here (m_X10_here k0  h hy5) rfl rfl (Nat.le_of_ble_eq_true rfl) (Nat.le_of_ble_eq_true rfl) (Nat.le_of_ble_eq_true rfl) ?_
  refine g_bipush (pc := 26) (v := (-9 : Int32)) S dX10_tells_26 (by decide) ?_
  refine g_icmp_eq (pc := 28) (tgt := 53) S dX10_tells_28 (by decide) hyp (fun hyp => ?_) (fun hyp => ?_)
  · have hyp := Option.some.inj hyp
    subst hyp
    exact g_sub [0, 1] rfl (hex0 (a1, y5.2) rfl)
  · refine g_aload_n (pc := 31) 0 S dX10_tells_31 rfl ?_
    refine g_iload_n (pc := 32) 1 S dX10_tells_32 rfl ?_
    refine g_bind hyp (fun y6 hy6 hyp => ?_)
    refine g_callV (pc := 33) (As := [.int a1]) (rest := []) S dX10_tells_33 k0 rfl tw_1262 tw_1263 tw_79 mw_X10_readsItem (m_X10_readsItem k0 a1 y5.2 hy6) rfl rfl (Nat.le_of_ble_eq_true rfl) (Nat.le_of_ble_eq_true rfl) (Nat.le_of_ble_eq_true rfl) ?_
    refine g_if_ne (pc := 36) (tgt := 47) S dX10_tells_36 (by decide) hyp (fun hyp => ?_) (fun hyp => ?_)
    · refine g_bipush (pc := 39) (v := (-10 : Int32)) S dX10_tells_39 (by decide) ?_
      refine g_aload_n (pc := 41) 0 S dX10_tells_41 rfl ?_
      refine g_getI (pc := 42) S dX10_tells_42 fl_X10_339 k0 ?_
      refine g_isub (pc := 45) S dX10_tells_45 ?_
      have hyp := Option.some.inj hyp
      subst hyp
      exact g_iret (pc := 46) S (hret (((-10 : Int32) - (y6.2.1 c0 44)), y6.2) rfl) dX10_tells_46
    · refine g_iinc (pc := 47) (v := (a1 + (1 : Int32))) (lv' := [(1, .int (a1 + (1 : Int32))), (0, .ref (ad K c0))]) 1 S dX10_tells_47 rfl (by rfl) (by decide) rfl ?_
      refine g_lti (C := fun v1_7 => Go K (47 + 3) [(1, .int v1_7), (0, .ref (ad K c0))] [] y6.2) hyp (fun v1_7 hyp => ?_)
      refine g_goto (pc := 50) (tgt := 22) S dX10_tells_50 (by decide) ?_
      have hyp := Option.some.inj hyp
      subst hyp
      exact g_sub [1, 0] rfl (hin (v1_7, y6.2) rfl)
set_option maxRecDepth 100000 in
set_option maxHeartbeats 4000000 in
theorem o_X10_tells_l103 {K : gK} (S : Cx K RX10 cX10_tells 3 5 135) {c0 : Nat} (k0 : kd c0 (10 + 10, 0)) (a1 : Int32) (a2 : Int32) (h : Hp) {o : (Int32 × Hp) ⊕ (Hp)} (hyp : s_X10_tells_l103 c0 a1 a2 h = some o) (hin : ∀ s', o = .inl s' → Go K 103 [(0, .ref (ad K c0)), (1, .int a1), (2, .int s'.1)] [] s'.2) (hex0 : ∀ s', o = .inr (s') → Go K 127 [(0, .ref (ad K c0)), (1, .int a1)] [] s') : Go K 103 [(0, .ref (ad K c0)), (1, .int a1), (2, .int a2)] [] h := by
  unfold s_X10_tells_l103 at hyp
  refine g_iload_n (pc := 103) 2 S dX10_tells_103 rfl ?_
  refine g_bipush (pc := 104) (v := (24 : Int32)) S dX10_tells_104 (by decide) ?_
  refine g_icmp_ge (pc := 106) (tgt := 127) S dX10_tells_106 (by decide) hyp (fun hyp => ?_) (fun hyp => ?_)
  · refine g_aload_n (pc := 109) 0 S dX10_tells_109 rfl ?_
    refine g_getR (pc := 110) S dX10_tells_110 fl_X10_13 k0 ?_
    refine g_iload_n (pc := 113) 2 S dX10_tells_113 rfl ?_
    refine g_aload_n (pc := 114) 0 S dX10_tells_114 rfl ?_
    refine g_getR (pc := 115) S dX10_tells_115 fl_X10_88 k0 ?_
    refine g_iload_n (pc := 118) 2 S dX10_tells_118 rfl ?_
    refine g_iald (pc := 119) S dX10_tells_119 (kf_10_24 k0) hyp (fun x17 hyp => ?_)
    refine g_iast (pc := 120) S dX10_tells_120 (kf_10_1 k0) hyp (fun h18 hyp => ?_)
    refine g_iinc (pc := 121) (v := (a2 + (1 : Int32))) (lv' := [(2, .int (a2 + (1 : Int32))), (0, .ref (ad K c0)), (1, .int a1)]) 2 S dX10_tells_121 rfl (by rfl) (by decide) rfl ?_
    refine g_lti (C := fun v2_19 => Go K (121 + 3) [(2, .int v2_19), (0, .ref (ad K c0)), (1, .int a1)] [] h18) hyp (fun v2_19 hyp => ?_)
    refine g_goto (pc := 124) (tgt := 103) S dX10_tells_124 (by decide) ?_
    have hyp := Option.some.inj hyp
    subst hyp
    exact g_sub [1, 2, 0] rfl (hin (v2_19, h18) rfl)
  · have hyp := Option.some.inj hyp
    subst hyp
    exact g_sub [0, 1] rfl (hex0 h rfl)
set_option maxRecDepth 100000 in
set_option maxHeartbeats 4000000 in
theorem o_X10_tells_l129 {K : gK} (S : Cx K RX10 cX10_tells 3 5 135) {c0 : Nat} (k0 : kd c0 (10 + 10, 0)) (a1 : Int32) (a2 : Int32) (h : Hp) {o : (Int32 × Hp) ⊕ (Hp)} (hyp : s_X10_tells_l129 c0 a1 a2 h = some o) (hin : ∀ s', o = .inl s' → Go K 129 [(0, .ref (ad K c0)), (1, .int a1), (2, .int s'.1)] [] s'.2) (hex0 : ∀ s', o = .inr (s') → Go K 153 [(1, .int a1)] [] s') : Go K 129 [(0, .ref (ad K c0)), (1, .int a1), (2, .int a2)] [] h := by
  unfold s_X10_tells_l129 at hyp
  refine g_iload_n (pc := 129) 2 S dX10_tells_129 rfl ?_
  refine g_bipush (pc := 130) (v := (30 : Int32)) S dX10_tells_130 (by decide) ?_
  refine g_icmp_ge (pc := 132) (tgt := 153) S dX10_tells_132 (by decide) hyp (fun hyp => ?_) (fun hyp => ?_)
  · refine g_aload_n (pc := 135) 0 S dX10_tells_135 rfl ?_
    refine g_getR (pc := 136) S dX10_tells_136 fl_X10_17 k0 ?_
    refine g_iload_n (pc := 139) 2 S dX10_tells_139 rfl ?_
    refine g_aload_n (pc := 140) 0 S dX10_tells_140 rfl ?_
    refine g_getR (pc := 141) S dX10_tells_141 fl_X10_91 k0 ?_
    refine g_iload_n (pc := 144) 2 S dX10_tells_144 rfl ?_
    refine g_iald (pc := 145) S dX10_tells_145 (kf_10_25 k0) hyp (fun x21 hyp => ?_)
    refine g_iast (pc := 146) S dX10_tells_146 (kf_10_2 k0) hyp (fun h22 hyp => ?_)
    refine g_iinc (pc := 147) (v := (a2 + (1 : Int32))) (lv' := [(2, .int (a2 + (1 : Int32))), (0, .ref (ad K c0)), (1, .int a1)]) 2 S dX10_tells_147 rfl (by rfl) (by decide) rfl ?_
    refine g_lti (C := fun v2_23 => Go K (147 + 3) [(2, .int v2_23), (0, .ref (ad K c0)), (1, .int a1)] [] h22) hyp (fun v2_23 hyp => ?_)
    refine g_goto (pc := 150) (tgt := 129) S dX10_tells_150 (by decide) ?_
    have hyp := Option.some.inj hyp
    subst hyp
    exact g_sub [1, 2, 0] rfl (hin (v2_23, h22) rfl)
  · have hyp := Option.some.inj hyp
    subst hyp
    exact g_sub [1] rfl (hex0 h rfl)
set_option maxRecDepth 100000 in
set_option maxHeartbeats 4000000 in
theorem o_X10_tells {K : gK} (S : Cx K RX10 cX10_tells 3 5 135) {c0 : Nat} (k0 : kd c0 (10 + 10, 0))  (h : Hp) {o : Int32 × Hp} (hyp : s_X10_tells c0  h = some o) (F : Rt K (some .int) (some (.int o.1)) o.2) : Go K 0 [(0, .ref (ad K c0))] [] h := by
  unfold s_X10_tells at hyp
  refine g_aload_n (pc := 0) 0 S dX10_tells_0 rfl ?_
  refine g_iconst (pc := 1) (v := (0 : Int32)) S dX10_tells_1 (by decide) ?_
  refine g_putI (pc := 2) S dX10_tells_2 fl_X10_339 k0 hyp (fun h1 hyp => ?_)
  refine g_aload_n (pc := 5) 0 S dX10_tells_5 rfl ?_
  refine g_iconst (pc := 6) (v := (2 : Int32)) S dX10_tells_6 (by decide) ?_
  refine g_putI (pc := 7) S dX10_tells_7 fl_X10_351 k0 hyp (fun h2 hyp => ?_)
  refine g_aload_n (pc := 10) 0 S dX10_tells_10 rfl ?_
  refine g_iconst (pc := 11) (v := (0 : Int32)) S dX10_tells_11 (by decide) ?_
  refine g_putI (pc := 12) S dX10_tells_12 fl_X10_357 k0 hyp (fun h3 hyp => ?_)
  refine g_aload_n (pc := 15) 0 S dX10_tells_15 rfl ?_
  refine g_iconst (pc := 16) (v := (0 : Int32)) S dX10_tells_16 (by decide) ?_
  refine g_putI (pc := 17) S dX10_tells_17 fl_X10_363 k0 hyp (fun h4 hyp => ?_)
  refine g_iconst (pc := 20) (v := (0 : Int32)) S dX10_tells_20 (by decide) ?_
  refine g_istore_n (pc := 21) (lv' := [(1, .int (0 : Int32)), (0, .ref (ad K c0))]) S dX10_tells_21 rfl (by decide) rfl ?_
  refine g_bind hyp (fun e8 he8 hyp => ?_)
  refine g_sub [1, 0] rfl (g_loop (f := fun s : Int32 × Hp => s_X10_tells_l22 c0 s.1 s.2) (ρ := (Int32 × Hp) ⊕ (Int32 × Hp)) (Hd := fun s : Int32 × Hp => Go K 22 [(0, .ref (ad K c0)), (1, .int s.1)] [] s.2) (Ex := fun e8 => (∀ t, e8 = .inl t → Go K 53 [(0, .ref (ad K c0)), (1, .int t.1)] [] t.2) ∧ (∀ t, e8 = .inr t → Rt K (some .int) (some (.int t.1)) t.2)) (fun s o h1 h2 h3 => o_X10_tells_l22 S k0 s.1 s.2 h1 h2 (fun t q => (h3 _ q).1 t rfl) (fun t q => (h3 _ q).2 t rfl)) FUEL _ e8 he8 ?_)
  refine ⟨?_, ?_⟩
  · intro t9 q
    subst q
    try dsimp only [Sum.elim] at hyp
    refine g_aload_n (pc := 53) 0 S dX10_tells_53 rfl ?_
    refine g_aload_n (pc := 54) 0 S dX10_tells_54 rfl ?_
    refine g_getI (pc := 55) S dX10_tells_55 fl_X10_351 k0 ?_
    refine g_putI (pc := 58) S dX10_tells_58 fl_X10_7 k0 hyp (fun h10 hyp => ?_)
    refine g_aload_n (pc := 61) 0 S dX10_tells_61 rfl ?_
    refine g_aload_n (pc := 62) 0 S dX10_tells_62 rfl ?_
    refine g_getI (pc := 63) S dX10_tells_63 fl_X10_357 k0 ?_
    refine g_putI (pc := 66) S dX10_tells_66 fl_X10_94 k0 hyp (fun h11 hyp => ?_)
    refine g_aload_n (pc := 69) 0 S dX10_tells_69 rfl ?_
    refine g_aload_n (pc := 70) 0 S dX10_tells_70 rfl ?_
    refine g_getI (pc := 71) S dX10_tells_71 fl_X10_363 k0 ?_
    refine g_putI (pc := 74) S dX10_tells_74 fl_X10_97 k0 hyp (fun h12 hyp => ?_)
    refine g_aload_n (pc := 77) 0 S dX10_tells_77 rfl ?_
    refine g_iconst (pc := 78) (v := (0 : Int32)) S dX10_tells_78 (by decide) ?_
    refine g_putI (pc := 79) S dX10_tells_79 fl_X10_100 k0 hyp (fun h13 hyp => ?_)
    refine g_aload_n (pc := 82) 0 S dX10_tells_82 rfl ?_
    refine g_getR (pc := 83) S dX10_tells_83 fl_X10_23 k0 ?_
    refine g_iconst (pc := 86) (v := (0 : Int32)) S dX10_tells_86 (by decide) ?_
    refine g_iconst (pc := 87) (v := (0 : Int32)) S dX10_tells_87 (by decide) ?_
    refine g_iast (pc := 88) S dX10_tells_88 (kf_10_4 k0) hyp (fun h14 hyp => ?_)
    refine g_aload_n (pc := 89) 0 S dX10_tells_89 rfl ?_
    refine g_getR (pc := 90) S dX10_tells_90 fl_X10_23 k0 ?_
    refine g_iconst (pc := 93) (v := (1 : Int32)) S dX10_tells_93 (by decide) ?_
    refine g_iconst (pc := 94) (v := (0 : Int32)) S dX10_tells_94 (by decide) ?_
    refine g_iast (pc := 95) S dX10_tells_95 (kf_10_4 k0) hyp (fun h15 hyp => ?_)
    refine g_aload_n (pc := 96) 0 S dX10_tells_96 rfl ?_
    refine g_iconst (pc := 97) (v := (0 : Int32)) S dX10_tells_97 (by decide) ?_
    refine g_putI (pc := 98) S dX10_tells_98 fl_X10_336 k0 hyp (fun h16 hyp => ?_)
    refine g_iconst (pc := 101) (v := (0 : Int32)) S dX10_tells_101 (by decide) ?_
    refine g_istore_n (pc := 102) (lv' := [(2, .int (0 : Int32)), (0, .ref (ad K c0)), (1, .int t9.1)]) S dX10_tells_102 rfl (by decide) rfl ?_
    refine g_bind hyp (fun e20 he20 hyp => ?_)
    refine g_sub [1, 2, 0] rfl (g_loop (f := fun s : Int32 × Hp => s_X10_tells_l103 c0 t9.1 s.1 s.2) (ρ := Hp) (Hd := fun s : Int32 × Hp => Go K 103 [(0, .ref (ad K c0)), (1, .int t9.1), (2, .int s.1)] [] s.2) (Ex := fun e20 => Go K 127 [(0, .ref (ad K c0)), (1, .int t9.1)] [] e20) (fun s o h1 h2 h3 => o_X10_tells_l103 S k0 t9.1 s.1 s.2 h1 h2 h3) FUEL _ e20 he20 ?_)
    refine g_iconst (pc := 127) (v := (0 : Int32)) S dX10_tells_127 (by decide) ?_
    refine g_istore_n (pc := 128) (lv' := [(2, .int (0 : Int32)), (0, .ref (ad K c0)), (1, .int t9.1)]) S dX10_tells_128 rfl (by decide) rfl ?_
    refine g_bind hyp (fun e24 he24 hyp => ?_)
    refine g_sub [1, 2, 0] rfl (g_loop (f := fun s : Int32 × Hp => s_X10_tells_l129 c0 t9.1 s.1 s.2) (ρ := Hp) (Hd := fun s : Int32 × Hp => Go K 129 [(0, .ref (ad K c0)), (1, .int t9.1), (2, .int s.1)] [] s.2) (Ex := fun e24 => Go K 153 [(1, .int t9.1)] [] e24) (fun s o h1 h2 h3 => o_X10_tells_l129 S k0 t9.1 s.1 s.2 h1 h2 h3) FUEL _ e24 he24 ?_)
    refine g_iload_n (pc := 153) 0 S dX10_tells_153 rfl ?_
    have hyp := Option.some.inj hyp
    subst hyp
    exact g_iret (pc := 154) S F dX10_tells_154
  · intro t25 q
    subst q
    try dsimp only [Sum.elim] at hyp
    have hyp := Option.some.inj hyp
    subst hyp
    exact F
theorem m_X10_tells {l : Launch} {D : va_G} {cT : Nat → ClassId} {aD : Nat → Nat} {c0 : Nat} (k0 : kd c0 (10 + 10, 0))  (h : Hp) {o : Int32 × Hp} (hyp : s_X10_tells c0  h = some o) : Ok l D cT aD yX10_tells cX10_tells 3 (some .int) 5 135 [.ref (aD c0)] h (some (.int o.1)) o.2 :=
  Ok.of (by decide +kernel) rfl (Nat.le_of_ble_eq_true rfl) (fun K e1 e2 e3 e4 S F => by subst e1; exact o_X10_tells S k0  h hyp F)
