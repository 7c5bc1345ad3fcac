-- BoundProofsModel cuts (JJI)V
noncomputable def s_X10_cuts_b37 (c0 : Nat) (t0 : Int32) (h : Hp) : Option (Hp) :=
  ckB t0 <|
  lt (sI h c0 28 t0) fun h1 =>
  some h1
noncomputable def s_X10_cuts_b32 (c0 : Nat)  (h : Hp) : Option (Hp) :=
  s_X10_cuts_b37 c0 (1 : Int32) h
noncomputable def s_X10_cuts_b36 (c0 : Nat)  (h : Hp) : Option (Hp) :=
  s_X10_cuts_b37 c0 (0 : Int32) h
noncomputable def s_X10_cuts_b141 (c0 : Nat)  (h : Hp) : Option (Hp) :=
  lt (sI h c0 24 (1 : Int32)) fun h5 =>
  some h5
noncomputable def s_X10_cuts_b106 (c0 : Nat) (t0 : Int32) (h : Hp) : Option (Hp) :=
  ckB t0 <|
  lt (sI h c0 27 t0) fun h4 =>
  s_X10_cuts_b141 c0  h4
noncomputable def s_X10_cuts_b138 (c0 : Nat) (t0 : Int32) (h : Hp) : Option (Hp) :=
  ckB t0 <|
  lt (sI h c0 27 t0) fun h6 =>
  s_X10_cuts_b141 c0  h6
noncomputable def s_X10_cuts_b133 (c0 : Nat)  (h : Hp) : Option (Hp) :=
  s_X10_cuts_b138 c0 (1 : Int32) h
noncomputable def s_X10_cuts_b75 (c0 : Nat) (a1 : Int64) (a3 : Int64) (a5 : Int32) (t0 : Int64) (h : Hp) : Option (Hp) :=
  if t0 < (0 : Int64) then (lt (sJ h c0 25 a3) fun h2 =>
  lt (sJ h2 c0 26 a1) fun h3 =>
  if a5 = (1 : Int32) then (s_X10_cuts_b106 c0 (1 : Int32) h3)
  else (s_X10_cuts_b106 c0 (0 : Int32) h3))
  else (if t0 = (0 : Int64) then (if (h.1 c0 27) = 0 then (if a5 = (1 : Int32) then (s_X10_cuts_b133 c0  h)
  else (s_X10_cuts_b138 c0 (0 : Int32) h))
  else (s_X10_cuts_b133 c0  h))
  else (s_X10_cuts_b141 c0  h))
noncomputable def s_X10_cuts_b243 (c0 : Nat)  (h : Hp) : Option (Hp) :=
  lt (sI h c0 20 (1 : Int32)) fun h10 =>
  some h10
noncomputable def s_X10_cuts_b208 (c0 : Nat) (t0 : Int32) (h : Hp) : Option (Hp) :=
  ckB t0 <|
  lt (sI h c0 23 t0) fun h9 =>
  s_X10_cuts_b243 c0  h9
noncomputable def s_X10_cuts_b240 (c0 : Nat) (t0 : Int32) (h : Hp) : Option (Hp) :=
  ckB t0 <|
  lt (sI h c0 23 t0) fun h11 =>
  s_X10_cuts_b243 c0  h11
noncomputable def s_X10_cuts_b235 (c0 : Nat)  (h : Hp) : Option (Hp) :=
  s_X10_cuts_b240 c0 (1 : Int32) h
noncomputable def s_X10_cuts_b175 (c0 : Nat) (a1 : Int64) (a3 : Int64) (a5 : Int32) (t0 : Int64) (h : Hp) : Option (Hp) :=
  if (0 : Int64) < t0 then (lt (sJ h c0 21 (-a3)) fun h7 =>
  lt (sJ h7 c0 22 (-a1)) fun h8 =>
  if a5 = (1 : Int32) then (s_X10_cuts_b208 c0 (1 : Int32) h8)
  else (s_X10_cuts_b208 c0 (0 : Int32) h8))
  else (if t0 = (0 : Int64) then (if (h.1 c0 23) = 0 then (if a5 = (1 : Int32) then (s_X10_cuts_b235 c0  h)
  else (s_X10_cuts_b240 c0 (0 : Int32) h))
  else (s_X10_cuts_b235 c0  h))
  else (s_X10_cuts_b243 c0  h))
noncomputable def s_X10_cuts (c0 : Nat) (a1 : Int64) (a3 : Int64) (a5 : Int32) (h : Hp) : Option (Hp) :=
  if a1 = (0 : Int64) then (if (h.1 c0 28) = 0 then (if a3 < (0 : Int64) then (s_X10_cuts_b32 c0  h)
  else (if a3 = (0 : Int64) then (if a5 = (1 : Int32) then (s_X10_cuts_b32 c0  h)
  else (s_X10_cuts_b36 c0  h))
  else (s_X10_cuts_b36 c0  h)))
  else (s_X10_cuts_b32 c0  h))
  else (if (0 : Int64) < a1 then (if (h.1 c0 24) = 0 then (s_X10_cuts_b75 c0 a1 a3 a5 (-1 : Int64) h)
  else (s_X10_cuts_b75 c0 a1 a3 a5 ((a3 * (h.2 c0 26)) - ((h.2 c0 25) * a1)) h))
  else (if (h.1 c0 20) = 0 then (s_X10_cuts_b175 c0 a1 a3 a5 (1 : Int64) h)
  else (s_X10_cuts_b175 c0 a1 a3 a5 (((-a3) * (h.2 c0 22)) - ((h.2 c0 21) * (-a1))) h)))
set_option maxRecDepth 100000 in
set_option maxHeartbeats 4000000 in
theorem o_X10_cuts_b37 {K : gK} (S : Cx K RX10 cX10_cuts 8 0 0) {c0 : Nat} (k0 : kd c0 (10 + 10, 0)) (t0 : Int32) (h : Hp) {o : Hp} (hyp : s_X10_cuts_b37 c0 t0 h = some o) (F : Rt K none none o) : Go K 37 [] [.int t0, .ref (ad K c0)] h := by
  unfold s_X10_cuts_b37 at hyp
  refine g_ckB hyp (fun hz hyp => ?_)
  refine g_putZ (pc := 37) S dX10_cuts_37 fl_X10_149 k0 hz hyp (fun h1 hyp => ?_)
  refine g_goto (pc := 40) (tgt := 248) S dX10_cuts_40 (by decide) ?_
  have hyp := Option.some.inj hyp
  subst hyp
  exact g_vret (pc := 248) S F dX10_cuts_248
set_option maxRecDepth 100000 in
set_option maxHeartbeats 4000000 in
theorem o_X10_cuts_b32 {K : gK} (S : Cx K RX10 cX10_cuts 8 0 0) {c0 : Nat} (k0 : kd c0 (10 + 10, 0))  (h : Hp) {o : Hp} (hyp : s_X10_cuts_b32 c0  h = some o) (F : Rt K none none o) : Go K 32 [] [.ref (ad K c0)] h := by
  unfold s_X10_cuts_b32 at hyp
  refine g_iconst (pc := 32) (v := (1 : Int32)) S dX10_cuts_32 (by decide) ?_
  refine g_goto (pc := 33) (tgt := 37) S dX10_cuts_33 (by decide) ?_
  exact g_sub [] rfl (o_X10_cuts_b37 S k0 (1 : Int32) h hyp F)
set_option maxRecDepth 100000 in
set_option maxHeartbeats 4000000 in
theorem o_X10_cuts_b36 {K : gK} (S : Cx K RX10 cX10_cuts 8 0 0) {c0 : Nat} (k0 : kd c0 (10 + 10, 0))  (h : Hp) {o : Hp} (hyp : s_X10_cuts_b36 c0  h = some o) (F : Rt K none none o) : Go K 36 [] [.ref (ad K c0)] h := by
  unfold s_X10_cuts_b36 at hyp
  refine g_iconst (pc := 36) (v := (0 : Int32)) S dX10_cuts_36 (by decide) ?_
  exact g_sub [] rfl (o_X10_cuts_b37 S k0 (0 : Int32) h hyp F)
set_option maxRecDepth 100000 in
set_option maxHeartbeats 4000000 in
theorem o_X10_cuts_b141 {K : gK} (S : Cx K RX10 cX10_cuts 8 0 0) {c0 : Nat} (k0 : kd c0 (10 + 10, 0))  (h : Hp) {o : Hp} (hyp : s_X10_cuts_b141 c0  h = some o) (F : Rt K none none o) : Go K 141 [(0, .ref (ad K c0))] [] h := by
  unfold s_X10_cuts_b141 at hyp
  refine g_aload_n (pc := 141) 0 S dX10_cuts_141 rfl ?_
  refine g_iconst (pc := 142) (v := (1 : Int32)) S dX10_cuts_142 (by decide) ?_
  refine g_putZ (pc := 143) S dX10_cuts_143 fl_X10_153 k0 (Or.inr rfl) hyp (fun h5 hyp => ?_)
  refine g_goto (pc := 146) (tgt := 248) S dX10_cuts_146 (by decide) ?_
  have hyp := Option.some.inj hyp
  subst hyp
  exact g_vret (pc := 248) S F dX10_cuts_248
set_option maxRecDepth 100000 in
set_option maxHeartbeats 4000000 in
theorem o_X10_cuts_b106 {K : gK} (S : Cx K RX10 cX10_cuts 8 0 0) {c0 : Nat} (k0 : kd c0 (10 + 10, 0)) (t0 : Int32) (h : Hp) {o : Hp} (hyp : s_X10_cuts_b106 c0 t0 h = some o) (F : Rt K none none o) : Go K 106 [(0, .ref (ad K c0))] [.int t0, .ref (ad K c0)] h := by
  unfold s_X10_cuts_b106 at hyp
  refine g_ckB hyp (fun hz hyp => ?_)
  refine g_putZ (pc := 106) S dX10_cuts_106 fl_X10_164 k0 hz hyp (fun h4 hyp => ?_)
  refine g_goto (pc := 109) (tgt := 141) S dX10_cuts_109 (by decide) ?_
  exact g_sub [0] rfl (o_X10_cuts_b141 S k0  h4 hyp F)
set_option maxRecDepth 100000 in
set_option maxHeartbeats 4000000 in
theorem o_X10_cuts_b138 {K : gK} (S : Cx K RX10 cX10_cuts 8 0 0) {c0 : Nat} (k0 : kd c0 (10 + 10, 0)) (t0 : Int32) (h : Hp) {o : Hp} (hyp : s_X10_cuts_b138 c0 t0 h = some o) (F : Rt K none none o) : Go K 138 [(0, .ref (ad K c0))] [.int t0, .ref (ad K c0)] h := by
  unfold s_X10_cuts_b138 at hyp
  refine g_ckB hyp (fun hz hyp => ?_)
  refine g_putZ (pc := 138) S dX10_cuts_138 fl_X10_164 k0 hz hyp (fun h6 hyp => ?_)
  exact g_sub [0] rfl (o_X10_cuts_b141 S k0  h6 hyp F)
set_option maxRecDepth 100000 in
set_option maxHeartbeats 4000000 in
theorem o_X10_cuts_b133 {K : gK} (S : Cx K RX10 cX10_cuts 8 0 0) {c0 : Nat} (k0 : kd c0 (10 + 10, 0))  (h : Hp) {o : Hp} (hyp : s_X10_cuts_b133 c0  h = some o) (F : Rt K none none o) : Go K 133 [(0, .ref (ad K c0))] [.ref (ad K c0)] h := by
  unfold s_X10_cuts_b133 at hyp
  refine g_iconst (pc := 133) (v := (1 : Int32)) S dX10_cuts_133 (by decide) ?_
  refine g_goto (pc := 134) (tgt := 138) S dX10_cuts_134 (by decide) ?_
  exact g_sub [0] rfl (o_X10_cuts_b138 S k0 (1 : Int32) h hyp F)
set_option maxRecDepth 100000 in
set_option maxHeartbeats 4000000 in
theorem o_X10_cuts_b75 {K : gK} (S : Cx K RX10 cX10_cuts 8 0 0) {c0 : Nat} (k0 : kd c0 (10 + 10, 0)) (a1 : Int64) (a3 : Int64) (a5 : Int32) (t0 : Int64) (h : Hp) {o : Hp} (hyp : s_X10_cuts_b75 c0 a1 a3 a5 t0 h = some o) (F : Rt K none none o) : Go K 75 [(0, .ref (ad K c0)), (1, .long a1), (3, .long a3), (5, .int a5)] [.long t0] h := by
  unfold s_X10_cuts_b75 at hyp
  refine g_lstore (pc := 75) (lv' := [(6, .long t0), (0, .ref (ad K c0)), (1, .long a1), (3, .long a3), (5, .int a5)]) S dX10_cuts_75 (by decide) rfl ?_
  refine g_lload (pc := 77) 0 S dX10_cuts_77 rfl ?_
  refine g_lconst (pc := 79) (v := (0 : Int64)) S dX10_cuts_79 (by decide) ?_
  refine g_lcmp_ge (pc := 80) (tgt := 112) S dX10_cuts_80 dX10_cuts_81 (by decide) hyp (fun hyp => ?_) (fun hyp => ?_)
  · refine g_aload_n (pc := 84) 1 S dX10_cuts_84 rfl ?_
    refine g_lload_n (pc := 85) 3 S dX10_cuts_85 rfl ?_
    refine g_putJ (pc := 86) S dX10_cuts_86 fl_X10_159 k0 hyp (fun h2 hyp => ?_)
    refine g_aload_n (pc := 89) 1 S dX10_cuts_89 rfl ?_
    refine g_lload_n (pc := 90) 2 S dX10_cuts_90 rfl ?_
    refine g_putJ (pc := 91) S dX10_cuts_91 fl_X10_156 k0 hyp (fun h3 hyp => ?_)
    refine g_aload_n (pc := 94) 1 S dX10_cuts_94 rfl ?_
    refine g_iload (pc := 95) 4 S dX10_cuts_95 rfl ?_
    refine g_iconst (pc := 97) (v := (1 : Int32)) S dX10_cuts_97 (by decide) ?_
    refine g_icmp_ne (pc := 98) (tgt := 105) S dX10_cuts_98 (by decide) hyp (fun hyp => ?_) (fun hyp => ?_)
    · refine g_iconst (pc := 101) (v := (1 : Int32)) S dX10_cuts_101 (by decide) ?_
      refine g_goto (pc := 102) (tgt := 106) S dX10_cuts_102 (by decide) ?_
      exact g_sub [1] rfl (o_X10_cuts_b106 S k0 (1 : Int32) h3 hyp F)
    · refine g_iconst (pc := 105) (v := (0 : Int32)) S dX10_cuts_105 (by decide) ?_
      exact g_sub [1] rfl (o_X10_cuts_b106 S k0 (0 : Int32) h3 hyp F)
  · refine g_lload (pc := 112) 0 S dX10_cuts_112 rfl ?_
    refine g_lconst (pc := 114) (v := (0 : Int64)) S dX10_cuts_114 (by decide) ?_
    refine g_lcmp_ne (pc := 115) (tgt := 141) S dX10_cuts_115 dX10_cuts_116 (by decide) hyp (fun hyp => ?_) (fun hyp => ?_)
    · refine g_aload_n (pc := 119) 1 S dX10_cuts_119 rfl ?_
      refine g_aload_n (pc := 120) 1 S dX10_cuts_120 rfl ?_
      refine g_getI (pc := 121) S dX10_cuts_121 fl_X10_164 k0 ?_
      refine g_if_ne (pc := 124) (tgt := 133) S dX10_cuts_124 (by decide) hyp (fun hyp => ?_) (fun hyp => ?_)
      · refine g_iload (pc := 127) 4 S dX10_cuts_127 rfl ?_
        refine g_iconst (pc := 129) (v := (1 : Int32)) S dX10_cuts_129 (by decide) ?_
        refine g_icmp_ne (pc := 130) (tgt := 137) S dX10_cuts_130 (by decide) hyp (fun hyp => ?_) (fun hyp => ?_)
        · exact g_sub [1] rfl (o_X10_cuts_b133 S k0  h hyp F)
        · refine g_iconst (pc := 137) (v := (0 : Int32)) S dX10_cuts_137 (by decide) ?_
          exact g_sub [1] rfl (o_X10_cuts_b138 S k0 (0 : Int32) h hyp F)
      · exact g_sub [1] rfl (o_X10_cuts_b133 S k0  h hyp F)
    · exact g_sub [1] rfl (o_X10_cuts_b141 S k0  h hyp F)
set_option maxRecDepth 100000 in
set_option maxHeartbeats 4000000 in
theorem o_X10_cuts_b243 {K : gK} (S : Cx K RX10 cX10_cuts 8 0 0) {c0 : Nat} (k0 : kd c0 (10 + 10, 0))  (h : Hp) {o : Hp} (hyp : s_X10_cuts_b243 c0  h = some o) (F : Rt K none none o) : Go K 243 [(0, .ref (ad K c0))] [] h := by
  unfold s_X10_cuts_b243 at hyp
  refine g_aload_n (pc := 243) 0 S dX10_cuts_243 rfl ?_
  refine g_iconst (pc := 244) (v := (1 : Int32)) S dX10_cuts_244 (by decide) ?_
  refine g_putZ (pc := 245) S dX10_cuts_245 fl_X10_167 k0 (Or.inr rfl) hyp (fun h10 hyp => ?_)
  have hyp := Option.some.inj hyp
  subst hyp
  exact g_vret (pc := 248) S F dX10_cuts_248
set_option maxRecDepth 100000 in
set_option maxHeartbeats 4000000 in
theorem o_X10_cuts_b208 {K : gK} (S : Cx K RX10 cX10_cuts 8 0 0) {c0 : Nat} (k0 : kd c0 (10 + 10, 0)) (t0 : Int32) (h : Hp) {o : Hp} (hyp : s_X10_cuts_b208 c0 t0 h = some o) (F : Rt K none none o) : Go K 208 [(0, .ref (ad K c0))] [.int t0, .ref (ad K c0)] h := by
  unfold s_X10_cuts_b208 at hyp
  refine g_ckB hyp (fun hz hyp => ?_)
  refine g_putZ (pc := 208) S dX10_cuts_208 fl_X10_176 k0 hz hyp (fun h9 hyp => ?_)
  refine g_goto (pc := 211) (tgt := 243) S dX10_cuts_211 (by decide) ?_
  exact g_sub [0] rfl (o_X10_cuts_b243 S k0  h9 hyp F)
set_option maxRecDepth 100000 in
set_option maxHeartbeats 4000000 in
theorem o_X10_cuts_b240 {K : gK} (S : Cx K RX10 cX10_cuts 8 0 0) {c0 : Nat} (k0 : kd c0 (10 + 10, 0)) (t0 : Int32) (h : Hp) {o : Hp} (hyp : s_X10_cuts_b240 c0 t0 h = some o) (F : Rt K none none o) : Go K 240 [(0, .ref (ad K c0))] [.int t0, .ref (ad K c0)] h := by
  unfold s_X10_cuts_b240 at hyp
  refine g_ckB hyp (fun hz hyp => ?_)
  refine g_putZ (pc := 240) S dX10_cuts_240 fl_X10_176 k0 hz hyp (fun h11 hyp => ?_)
  exact g_sub [0] rfl (o_X10_cuts_b243 S k0  h11 hyp F)
set_option maxRecDepth 100000 in
set_option maxHeartbeats 4000000 in
theorem o_X10_cuts_b235 {K : gK} (S : Cx K RX10 cX10_cuts 8 0 0) {c0 : Nat} (k0 : kd c0 (10 + 10, 0))  (h : Hp) {o : Hp} (hyp : s_X10_cuts_b235 c0  h = some o) (F : Rt K none none o) : Go K 235 [(0, .ref (ad K c0))] [.ref (ad K c0)] h := by
  unfold s_X10_cuts_b235 at hyp
  refine g_iconst (pc := 235) (v := (1 : Int32)) S dX10_cuts_235 (by decide) ?_
  refine g_goto (pc := 236) (tgt := 240) S dX10_cuts_236 (by decide) ?_
  exact g_sub [0] rfl (o_X10_cuts_b240 S k0 (1 : Int32) h hyp F)
set_option maxRecDepth 100000 in
set_option maxHeartbeats 4000000 in
theorem o_X10_cuts_b175 {K : gK} (S : Cx K RX10 cX10_cuts 8 0 0) {c0 : Nat} (k0 : kd c0 (10 + 10, 0)) (a1 : Int64) (a3 : Int64) (a5 : Int32) (t0 : Int64) (h : Hp) {o : Hp} (hyp : s_X10_cuts_b175 c0 a1 a3 a5 t0 h = some o) (F : Rt K none none o) : Go K 175 [(0, .ref (ad K c0)), (1, .long a1), (3, .long a3), (5, .int a5)] [.long t0] h := by
  unfold s_X10_cuts_b175 at hyp
  refine g_lstore (pc := 175) (lv' := [(6, .long t0), (0, .ref (ad K c0)), (1, .long a1), (3, .long a3), (5, .int a5)]) S dX10_cuts_175 (by decide) rfl ?_
  refine g_lload (pc := 177) 0 S dX10_cuts_177 rfl ?_
  refine g_lconst (pc := 179) (v := (0 : Int64)) S dX10_cuts_179 (by decide) ?_
  refine g_lcmp_le (pc := 180) (tgt := 214) S dX10_cuts_180 dX10_cuts_181 (by decide) hyp (fun hyp => ?_) (fun hyp => ?_)
  · refine g_aload_n (pc := 184) 1 S dX10_cuts_184 rfl ?_
    refine g_lload_n (pc := 185) 3 S dX10_cuts_185 rfl ?_
    refine g_lneg (pc := 186) S dX10_cuts_186 ?_
    refine g_putJ (pc := 187) S dX10_cuts_187 fl_X10_173 k0 hyp (fun h7 hyp => ?_)
    refine g_aload_n (pc := 190) 1 S dX10_cuts_190 rfl ?_
    refine g_lload_n (pc := 191) 2 S dX10_cuts_191 rfl ?_
    refine g_lneg (pc := 192) S dX10_cuts_192 ?_
    refine g_putJ (pc := 193) S dX10_cuts_193 fl_X10_170 k0 hyp (fun h8 hyp => ?_)
    refine g_aload_n (pc := 196) 1 S dX10_cuts_196 rfl ?_
    refine g_iload (pc := 197) 4 S dX10_cuts_197 rfl ?_
    refine g_iconst (pc := 199) (v := (1 : Int32)) S dX10_cuts_199 (by decide) ?_
    refine g_icmp_ne (pc := 200) (tgt := 207) S dX10_cuts_200 (by decide) hyp (fun hyp => ?_) (fun hyp => ?_)
    · refine g_iconst (pc := 203) (v := (1 : Int32)) S dX10_cuts_203 (by decide) ?_
      refine g_goto (pc := 204) (tgt := 208) S dX10_cuts_204 (by decide) ?_
      exact g_sub [1] rfl (o_X10_cuts_b208 S k0 (1 : Int32) h8 hyp F)
    · refine g_iconst (pc := 207) (v := (0 : Int32)) S dX10_cuts_207 (by decide) ?_
      exact g_sub [1] rfl (o_X10_cuts_b208 S k0 (0 : Int32) h8 hyp F)
  · refine g_lload (pc := 214) 0 S dX10_cuts_214 rfl ?_
    refine g_lconst (pc := 216) (v := (0 : Int64)) S dX10_cuts_216 (by decide) ?_
    refine g_lcmp_ne (pc := 217) (tgt := 243) S dX10_cuts_217 dX10_cuts_218 (by decide) hyp (fun hyp => ?_) (fun hyp => ?_)
    · refine g_aload_n (pc := 221) 1 S dX10_cuts_221 rfl ?_
      refine g_aload_n (pc := 222) 1 S dX10_cuts_222 rfl ?_
      refine g_getI (pc := 223) S dX10_cuts_223 fl_X10_176 k0 ?_
      refine g_if_ne (pc := 226) (tgt := 235) S dX10_cuts_226 (by decide) hyp (fun hyp => ?_) (fun hyp => ?_)
      · refine g_iload (pc := 229) 4 S dX10_cuts_229 rfl ?_
        refine g_iconst (pc := 231) (v := (1 : Int32)) S dX10_cuts_231 (by decide) ?_
        refine g_icmp_ne (pc := 232) (tgt := 239) S dX10_cuts_232 (by decide) hyp (fun hyp => ?_) (fun hyp => ?_)
        · exact g_sub [1] rfl (o_X10_cuts_b235 S k0  h hyp F)
        · refine g_iconst (pc := 239) (v := (0 : Int32)) S dX10_cuts_239 (by decide) ?_
          exact g_sub [1] rfl (o_X10_cuts_b240 S k0 (0 : Int32) h hyp F)
      · exact g_sub [1] rfl (o_X10_cuts_b235 S k0  h hyp F)
    · exact g_sub [1] rfl (o_X10_cuts_b243 S k0  h hyp F)
set_option maxRecDepth 100000 in
set_option maxHeartbeats 4000000 in
theorem o_X10_cuts {K : gK} (S : Cx K RX10 cX10_cuts 8 0 0) {c0 : Nat} (k0 : kd c0 (10 + 10, 0)) (a1 : Int64) (a3 : Int64) (a5 : Int32) (h : Hp) {o : Hp} (hyp : s_X10_cuts c0 a1 a3 a5 h = some o) (F : Rt K none none o) : Go K 0 [(0, .ref (ad K c0)), (1, .long a1), (3, .long a3), (5, .int a5)] [] h := by
  unfold s_X10_cuts at hyp
  refine g_lload_n (pc := 0) 1 S dX10_cuts_0 rfl ?_
  refine g_lconst (pc := 1) (v := (0 : Int64)) S dX10_cuts_1 (by decide) ?_
  refine g_lcmp_ne (pc := 2) (tgt := 43) S dX10_cuts_2 dX10_cuts_3 (by decide) hyp (fun hyp => ?_) (fun hyp => ?_)
  · refine g_aload_n (pc := 6) 0 S dX10_cuts_6 rfl ?_
    refine g_aload_n (pc := 7) 0 S dX10_cuts_7 rfl ?_
    refine g_getI (pc := 8) S dX10_cuts_8 fl_X10_149 k0 ?_
    refine g_if_ne (pc := 11) (tgt := 32) S dX10_cuts_11 (by decide) hyp (fun hyp => ?_) (fun hyp => ?_)
    · refine g_lload_n (pc := 14) 2 S dX10_cuts_14 rfl ?_
      refine g_lconst (pc := 15) (v := (0 : Int64)) S dX10_cuts_15 (by decide) ?_
      refine g_lcmp_lt (pc := 16) (tgt := 32) S dX10_cuts_16 dX10_cuts_17 (by decide) hyp (fun hyp => ?_) (fun hyp => ?_)
      · exact g_sub [] rfl (o_X10_cuts_b32 S k0  h hyp F)
      · refine g_lload_n (pc := 20) 2 S dX10_cuts_20 rfl ?_
        refine g_lconst (pc := 21) (v := (0 : Int64)) S dX10_cuts_21 (by decide) ?_
        refine g_lcmp_ne (pc := 22) (tgt := 36) S dX10_cuts_22 dX10_cuts_23 (by decide) hyp (fun hyp => ?_) (fun hyp => ?_)
        · refine g_iload (pc := 26) 3 S dX10_cuts_26 rfl ?_
          refine g_iconst (pc := 28) (v := (1 : Int32)) S dX10_cuts_28 (by decide) ?_
          refine g_icmp_ne (pc := 29) (tgt := 36) S dX10_cuts_29 (by decide) hyp (fun hyp => ?_) (fun hyp => ?_)
          · exact g_sub [] rfl (o_X10_cuts_b32 S k0  h hyp F)
          · exact g_sub [] rfl (o_X10_cuts_b36 S k0  h hyp F)
        · exact g_sub [] rfl (o_X10_cuts_b36 S k0  h hyp F)
    · exact g_sub [] rfl (o_X10_cuts_b32 S k0  h hyp F)
  · refine g_lload_n (pc := 43) 1 S dX10_cuts_43 rfl ?_
    refine g_lconst (pc := 44) (v := (0 : Int64)) S dX10_cuts_44 (by decide) ?_
    refine g_lcmp_le (pc := 45) (tgt := 149) S dX10_cuts_45 dX10_cuts_46 (by decide) hyp (fun hyp => ?_) (fun hyp => ?_)
    · refine g_aload_n (pc := 49) 0 S dX10_cuts_49 rfl ?_
      refine g_getI (pc := 50) S dX10_cuts_50 fl_X10_153 k0 ?_
      refine g_if_eq (pc := 53) (tgt := 72) S dX10_cuts_53 (by decide) hyp (fun hyp => ?_) (fun hyp => ?_)
      · refine g_ldc2 (pc := 72) (v := (-1 : Int64)) S dX10_cuts_72 tw_1079 ?_
        exact g_sub [0, 1, 2, 3] rfl (o_X10_cuts_b75 S k0 a1 a3 a5 (-1 : Int64) h hyp F)
      · refine g_lload_n (pc := 56) 2 S dX10_cuts_56 rfl ?_
        refine g_aload_n (pc := 57) 0 S dX10_cuts_57 rfl ?_
        refine g_getJ (pc := 58) S dX10_cuts_58 fl_X10_156 k0 ?_
        refine g_lmul (pc := 61) S dX10_cuts_61 ?_
        refine g_aload_n (pc := 62) 0 S dX10_cuts_62 rfl ?_
        refine g_getJ (pc := 63) S dX10_cuts_63 fl_X10_159 k0 ?_
        refine g_lload_n (pc := 66) 1 S dX10_cuts_66 rfl ?_
        refine g_lmul (pc := 67) S dX10_cuts_67 ?_
        refine g_lsub (pc := 68) S dX10_cuts_68 ?_
        refine g_goto (pc := 69) (tgt := 75) S dX10_cuts_69 (by decide) ?_
        exact g_sub [0, 1, 2, 3] rfl (o_X10_cuts_b75 S k0 a1 a3 a5 ((a3 * (h.2 c0 26)) - ((h.2 c0 25) * a1)) h hyp F)
    · refine g_aload_n (pc := 149) 0 S dX10_cuts_149 rfl ?_
      refine g_getI (pc := 150) S dX10_cuts_150 fl_X10_167 k0 ?_
      refine g_if_eq (pc := 153) (tgt := 174) S dX10_cuts_153 (by decide) hyp (fun hyp => ?_) (fun hyp => ?_)
      · refine g_lconst (pc := 174) (v := (1 : Int64)) S dX10_cuts_174 (by decide) ?_
        exact g_sub [0, 1, 2, 3] rfl (o_X10_cuts_b175 S k0 a1 a3 a5 (1 : Int64) h hyp F)
      · refine g_lload_n (pc := 156) 2 S dX10_cuts_156 rfl ?_
        refine g_lneg (pc := 157) S dX10_cuts_157 ?_
        refine g_aload_n (pc := 158) 0 S dX10_cuts_158 rfl ?_
        refine g_getJ (pc := 159) S dX10_cuts_159 fl_X10_170 k0 ?_
        refine g_lmul (pc := 162) S dX10_cuts_162 ?_
        refine g_aload_n (pc := 163) 0 S dX10_cuts_163 rfl ?_
        refine g_getJ (pc := 164) S dX10_cuts_164 fl_X10_173 k0 ?_
        refine g_lload_n (pc := 167) 1 S dX10_cuts_167 rfl ?_
        refine g_lneg (pc := 168) S dX10_cuts_168 ?_
        refine g_lmul (pc := 169) S dX10_cuts_169 ?_
        refine g_lsub (pc := 170) S dX10_cuts_170 ?_
        refine g_goto (pc := 171) (tgt := 175) S dX10_cuts_171 (by decide) ?_
        exact g_sub [0, 1, 2, 3] rfl (o_X10_cuts_b175 S k0 a1 a3 a5 (((-a3) * (h.2 c0 22)) - ((h.2 c0 21) * (-a1))) h hyp F)
theorem m_X10_cuts {l : Launch} {D : va_G} {cT : Nat → ClassId} {aD : Nat → Nat} {c0 : Nat} (k0 : kd c0 (10 + 10, 0)) (a1 : Int64) (a3 : Int64) (a5 : Int32) (h : Hp) {o : Hp} (hyp : s_X10_cuts c0 a1 a3 a5 h = some o) : Ok l D cT aD yX10_cuts cX10_cuts 8 none 0 0 [.ref (aD c0), .long a1, .long a3, .int a5] h none o :=
  Ok.of (by decide +kernel) rfl (Nat.le_of_ble_eq_true rfl) (fun K e1 e2 e3 e4 S F => by subst e1; exact o_X10_cuts S k0 a1 a3 a5 h hyp F)
-- BoundProofsModel sees ()V
noncomputable def s_X10_sees_b163 (c0 : Nat) (a1 : Int32) (a2 : Int32) (h : Hp) : Option ((Int32 × Hp) ⊕ (Hp)) :=
  lt (a2 + (1 : Int32)) fun v2_22 =>
  some (.inl (v2_22, h))
noncomputable def s_X10_sees_l64 (c0 : Nat) (a1 : Int32) (a2 : Int32) (h : Hp) : Option ((Int32 × Hp) ⊕ (Hp)) :=
  if a2 < (h.1 c0 15) then (ldJ h (c0 + 12) 120 a1 fun x10 =>
  if (0 : Int64) < x10 then (ldJ h (c0 + 12) 120 a2 fun x11 =>
  if x11 < (0 : Int64) then (ldJ h (c0 + 12) 120 a2 fun x12 =>
  lt (-x12) fun v3_13 =>
  ldJ h (c0 + 12) 120 a1 fun x14 =>
  ldJ h (c0 + 11) 120 a1 fun x15 =>
  ldJ h (c0 + 11) 120 a2 fun x16 =>
  ldJ h (c0 + 13) 120 a1 fun x17 =>
  ldJ h (c0 + 13) 120 a2 fun x18 =>
  ldI h (c0 + 14) 120 a1 fun x19 =>
  ldI h (c0 + 14) 120 a2 fun x20 =>
  (s_X10_cuts c0 ((v3_13 * x15) + (x14 * x16)) ((v3_13 * x17) + (x14 * x18)) (x19 ||| x20) h).bind fun y21 =>
  s_X10_sees_b163 c0 a1 a2 y21)
  else (s_X10_sees_b163 c0 a1 a2 h))
  else (some (.inr (h))))
  else (some (.inr (h)))
noncomputable def s_X10_sees_b62 (c0 : Nat) (a1 : Int32) (h : Hp) : Option ((Int32 × Hp) ⊕ (Hp)) :=
  (iter (fun s : Int32 × Hp => s_X10_sees_l64 c0 a1 s.1 s.2) FUEL ((0 : Int32), h)).bind fun e23 =>
  lt (a1 + (1 : Int32)) fun v1_24 =>
  some (.inl (v1_24, e23))
noncomputable def s_X10_sees_l21 (c0 : Nat) (a1 : Int32) (h : Hp) : Option ((Int32 × Hp) ⊕ (Hp)) :=
  if a1 < (h.1 c0 15) then (ldJ h (c0 + 12) 120 a1 fun x5 =>
  if x5 = (0 : Int64) then (ldJ h (c0 + 11) 120 a1 fun x6 =>
  ldJ h (c0 + 13) 120 a1 fun x7 =>
  ldI h (c0 + 14) 120 a1 fun x8 =>
  (s_X10_cuts c0 x6 x7 x8 h).bind fun y9 =>
  s_X10_sees_b62 c0 a1 y9)
  else (s_X10_sees_b62 c0 a1 h))
  else (some (.inr (h)))
noncomputable def s_X10_sees_b248 (c0 : Nat) (t0 : Int32) (h : Hp) : Option (Hp) :=
  ckB t0 <|
  lt (sI h c0 28 t0) fun h27 =>
  some h27
noncomputable def s_X10_sees_b243 (c0 : Nat)  (h : Hp) : Option (Hp) :=
  s_X10_sees_b248 c0 (1 : Int32) h
noncomputable def s_X10_sees_b247 (c0 : Nat)  (h : Hp) : Option (Hp) :=
  s_X10_sees_b248 c0 (0 : Int32) h
noncomputable def s_X10_sees (c0 : Nat)  (h : Hp) : Option (Hp) :=
  (s_X10_withoutZ c0  h).bind fun y1 =>
  lt (sI y1 c0 20 (0 : Int32)) fun h2 =>
  lt (sI h2 c0 24 (0 : Int32)) fun h3 =>
  lt (sI h3 c0 28 (0 : Int32)) fun h4 =>
  (iter (fun s : Int32 × Hp => s_X10_sees_l21 c0 s.1 s.2) FUEL ((0 : Int32), h4)).bind fun e25 =>
  if (e25.1 c0 20) = 0 then (some e25)
  else (if (e25.1 c0 24) = 0 then (some e25)
  else (lt (((e25.2 c0 25) * (e25.2 c0 22)) - ((e25.2 c0 21) * (e25.2 c0 26))) fun v1_26 =>
  if (e25.1 c0 28) = 0 then (if v1_26 < (0 : Int64) then (s_X10_sees_b243 c0  e25)
  else (if v1_26 = (0 : Int64) then (if (e25.1 c0 23) = 0 then (if (e25.1 c0 27) = 0 then (s_X10_sees_b247 c0  e25)
  else (s_X10_sees_b243 c0  e25))
  else (s_X10_sees_b243 c0  e25))
  else (s_X10_sees_b247 c0  e25)))
  else (s_X10_sees_b243 c0  e25)))
set_option maxRecDepth 100000 in
set_option maxHeartbeats 4000000 in
theorem o_X10_sees_b163 {K : gK} (S : Cx K RX10 cX10_sees 7 2 61) {c0 : Nat} (k0 : kd c0 (10 + 10, 0)) (a1 : Int32) (a2 : Int32) (h : Hp) {o : (Int32 × Hp) ⊕ (Hp)} (hyp : s_X10_sees_b163 c0 a1 a2 h = some o) (hin : ∀ s', o = .inl s' → Go K 64 [(0, .ref (ad K c0)), (1, .int a1), (2, .int s'.1)] [] s'.2) (hex0 : ∀ s', o = .inr (s') → Go K 169 [(0, .ref (ad K c0)), (1, .int a1)] [] s') : Go K 163 [(0, .ref (ad K c0)), (1, .int a1), (2, .int a2)] [] h := by
  unfold s_X10_sees_b163 at hyp
  refine g_iinc (pc := 163) (v := (a2 + (1 : Int32))) (lv' := [(2, .int (a2 + (1 : Int32))), (0, .ref (ad K c0)), (1, .int a1)]) 2 S dX10_sees_163 rfl (by rfl) (by decide) rfl ?_
  refine g_lti (C := fun v2_22 => Go K (163 + 3) [(2, .int v2_22), (0, .ref (ad K c0)), (1, .int a1)] [] h) hyp (fun v2_22 hyp => ?_)
  refine g_goto (pc := 166) (tgt := 64) S dX10_sees_166 (by decide) ?_
  have hyp := Option.some.inj hyp
  subst hyp
  exact g_sub [1, 2, 0] rfl (hin (v2_22, h) rfl)
set_option maxRecDepth 100000 in
set_option maxHeartbeats 4000000 in
theorem o_X10_sees_l64 {K : gK} (S : Cx K RX10 cX10_sees 7 2 61) {c0 : Nat} (k0 : kd c0 (10 + 10, 0)) (a1 : Int32) (a2 : Int32) (h : Hp) {o : (Int32 × Hp) ⊕ (Hp)} (hyp : s_X10_sees_l64 c0 a1 a2 h = some o) (hin : ∀ s', o = .inl s' → Go K 64 [(0, .ref (ad K c0)), (1, .int a1), (2, .int s'.1)] [] s'.2) (hex0 : ∀ s', o = .inr (s') → Go K 169 [(0, .ref (ad K c0)), (1, .int a1)] [] s') : Go K 64 [(0, .ref (ad K c0)), (1, .int a1), (2, .int a2)] [] h := by
  unfold s_X10_sees_l64 at hyp
  refine g_iload_n (pc := 64) 2 S dX10_sees_64 rfl ?_
  refine g_aload_n (pc := 65) 0 S dX10_sees_65 rfl ?_
  refine g_getI (pc := 66) S dX10_sees_66 fl_X10_142 k0 ?_
  refine g_icmp_ge (pc := 69) (tgt := 169) S dX10_sees_69 (by decide) hyp (fun hyp => ?_) (fun hyp => ?_)
  · refine g_aload_n (pc := 72) 0 S dX10_sees_72 rfl ?_
    refine g_getR (pc := 73) S dX10_sees_73 fl_X10_48 k0 ?_
    refine g_iload_n (pc := 76) 1 S dX10_sees_76 rfl ?_
    refine g_lald (pc := 77) S dX10_sees_77 (kf_10_12 k0) hyp (fun x10 hyp => ?_)
    refine g_lconst (pc := 78) (v := (0 : Int64)) S dX10_sees_78 (by decide) ?_
    refine g_lcmp_le (pc := 79) (tgt := 169) S dX10_sees_79 dX10_sees_80 (by decide) hyp (fun hyp => ?_) (fun hyp => ?_)
    · refine g_aload_n (pc := 83) 0 S dX10_sees_83 rfl ?_
      refine g_getR (pc := 84) S dX10_sees_84 fl_X10_48 k0 ?_
      refine g_iload_n (pc := 87) 2 S dX10_sees_87 rfl ?_
      refine g_lald (pc := 88) S dX10_sees_88 (kf_10_12 k0) hyp (fun x11 hyp => ?_)
      refine g_lconst (pc := 89) (v := (0 : Int64)) S dX10_sees_89 (by decide) ?_
      refine g_lcmp_ge (pc := 90) (tgt := 163) S dX10_sees_90 dX10_sees_91 (by decide) hyp (fun hyp => ?_) (fun hyp => ?_)
      · refine g_aload_n (pc := 94) 0 S dX10_sees_94 rfl ?_
        refine g_getR (pc := 95) S dX10_sees_95 fl_X10_48 k0 ?_
        refine g_iload_n (pc := 98) 2 S dX10_sees_98 rfl ?_
        refine g_lald (pc := 99) S dX10_sees_99 (kf_10_12 k0) hyp (fun x12 hyp => ?_)
        refine g_lneg (pc := 100) S dX10_sees_100 ?_
        refine g_lti (C := fun v3_13 => Go K 101 [(0, .ref (ad K c0)), (1, .int a1), (2, .int a2)] [.long v3_13] h) hyp (fun v3_13 hyp => ?_)
        refine g_lstore_n (pc := 101) (lv' := [(3, .long v3_13), (0, .ref (ad K c0)), (1, .int a1), (2, .int a2)]) S dX10_sees_101 rfl (by decide) rfl ?_
        refine g_aload_n (pc := 102) 1 S dX10_sees_102 rfl ?_
        refine g_getR (pc := 103) S dX10_sees_103 fl_X10_48 k0 ?_
        refine g_iload_n (pc := 106) 2 S dX10_sees_106 rfl ?_
        refine g_lald (pc := 107) S dX10_sees_107 (kf_10_12 k0) hyp (fun x14 hyp => ?_)
        refine g_lstore (pc := 108) (lv' := [(5, .long x14), (3, .long v3_13), (0, .ref (ad K c0)), (1, .int a1), (2, .int a2)]) S dX10_sees_108 (by decide) rfl ?_
        refine g_aload_n (pc := 110) 2 S dX10_sees_110 rfl ?_
        refine g_lload_n (pc := 111) 1 S dX10_sees_111 rfl ?_
        refine g_aload_n (pc := 112) 2 S dX10_sees_112 rfl ?_
        refine g_getR (pc := 113) S dX10_sees_113 fl_X10_45 k0 ?_
        refine g_iload_n (pc := 116) 3 S dX10_sees_116 rfl ?_
        refine g_lald (pc := 117) S dX10_sees_117 (kf_10_11 k0) hyp (fun x15 hyp => ?_)
        refine g_lmul (pc := 118) S dX10_sees_118 ?_
        refine g_lload (pc := 119) 0 S dX10_sees_119 rfl ?_
        refine g_aload_n (pc := 121) 2 S dX10_sees_121 rfl ?_
        refine g_getR (pc := 122) S dX10_sees_122 fl_X10_45 k0 ?_
        refine g_iload_n (pc := 125) 4 S dX10_sees_125 rfl ?_
        refine g_lald (pc := 126) S dX10_sees_126 (kf_10_11 k0) hyp (fun x16 hyp => ?_)
        refine g_lmul (pc := 127) S dX10_sees_127 ?_
        refine g_ladd (pc := 128) S dX10_sees_128 ?_
        refine g_lload_n (pc := 129) 1 S dX10_sees_129 rfl ?_
        refine g_aload_n (pc := 130) 2 S dX10_sees_130 rfl ?_
        refine g_getR (pc := 131) S dX10_sees_131 fl_X10_51 k0 ?_
        refine g_iload_n (pc := 134) 3 S dX10_sees_134 rfl ?_
        refine g_lald (pc := 135) S dX10_sees_135 (kf_10_13 k0) hyp (fun x17 hyp => ?_)
        refine g_lmul (pc := 136) S dX10_sees_136 ?_
        refine g_lload (pc := 137) 0 S dX10_sees_137 rfl ?_
        refine g_aload_n (pc := 139) 2 S dX10_sees_139 rfl ?_
        refine g_getR (pc := 140) S dX10_sees_140 fl_X10_51 k0 ?_
        refine g_iload_n (pc := 143) 4 S dX10_sees_143 rfl ?_
        refine g_lald (pc := 144) S dX10_sees_144 (kf_10_13 k0) hyp (fun x18 hyp => ?_)
        refine g_lmul (pc := 145) S dX10_sees_145 ?_
        refine g_ladd (pc := 146) S dX10_sees_146 ?_
        refine g_aload_n (pc := 147) 2 S dX10_sees_147 rfl ?_
        refine g_getR (pc := 148) S dX10_sees_148 fl_X10_54 k0 ?_
        refine g_iload_n (pc := 151) 3 S dX10_sees_151 rfl ?_
        refine g_iald (pc := 152) S dX10_sees_152 (kf_10_14 k0) hyp (fun x19 hyp => ?_)
        refine g_aload_n (pc := 153) 2 S dX10_sees_153 rfl ?_
        refine g_getR (pc := 154) S dX10_sees_154 fl_X10_54 k0 ?_
        refine g_iload_n (pc := 157) 4 S dX10_sees_157 rfl ?_
        refine g_iald (pc := 158) S dX10_sees_158 (kf_10_14 k0) hyp (fun x20 hyp => ?_)
        refine g_ior (pc := 159) S dX10_sees_159 ?_
        refine g_bind hyp (fun y21 hy21 hyp => ?_)
        refine g_callV (pc := 160) (As := [.long ((v3_13 * x15) + (x14 * x16)), .long ((v3_13 * x17) + (x14 * x18)), .int (x19 ||| x20)]) (rest := []) S dX10_sees_160 k0 rfl tw_1076 tw_1077 tw_48 mw_X10_cuts (m_X10_cuts k0 ((v3_13 * x15) + (x14 * x16)) ((v3_13 * x17) + (x14 * x18)) (x19 ||| x20) h hy21) rfl rfl (Nat.le_of_ble_eq_true rfl) (Nat.le_of_ble_eq_true rfl) (Nat.le_of_ble_eq_true rfl) ?_
        exact g_sub [2, 3, 4] rfl (o_X10_sees_b163 S k0 a1 a2 y21 hyp hin hex0)
      · exact g_sub [0, 1, 2] rfl (o_X10_sees_b163 S k0 a1 a2 h hyp hin hex0)
    · have hyp := Option.some.inj hyp
      subst hyp
      exact g_sub [0, 1] rfl (hex0 h rfl)
  · have hyp := Option.some.inj hyp
    subst hyp
    exact g_sub [0, 1] rfl (hex0 h rfl)
set_option maxRecDepth 100000 in
set_option maxHeartbeats 4000000 in
theorem o_X10_sees_b62 {K : gK} (S : Cx K RX10 cX10_sees 7 2 61) {c0 : Nat} (k0 : kd c0 (10 + 10, 0)) (a1 : Int32) (h : Hp) {o : (Int32 × Hp) ⊕ (Hp)} (hyp : s_X10_sees_b62 c0 a1 h = some o) (hin : ∀ s', o = .inl s' → Go K 21 [(0, .ref (ad K c0)), (1, .int s'.1)] [] s'.2) (hex0 : ∀ s', o = .inr (s') → Go K 175 [(0, .ref (ad K c0))] [] s') : Go K 62 [(0, .ref (ad K c0)), (1, .int a1)] [] h := by
  unfold s_X10_sees_b62 at hyp
  refine g_iconst (pc := 62) (v := (0 : Int32)) S dX10_sees_62 (by decide) ?_
  refine g_istore_n (pc := 63) (lv' := [(2, .int (0 : Int32)), (0, .ref (ad K c0)), (1, .int a1)]) S dX10_sees_63 rfl (by decide) rfl ?_
  refine g_bind hyp (fun e23 he23 hyp => ?_)
  refine g_sub [1, 2, 0] rfl (g_loop (f := fun s : Int32 × Hp => s_X10_sees_l64 c0 a1 s.1 s.2) (ρ := Hp) (Hd := fun s : Int32 × Hp => Go K 64 [(0, .ref (ad K c0)), (1, .int a1), (2, .int s.1)] [] s.2) (Ex := fun e23 => Go K 169 [(0, .ref (ad K c0)), (1, .int a1)] [] e23) (fun s o h1 h2 h3 => o_X10_sees_l64 S k0 a1 s.1 s.2 h1 h2 h3) FUEL _ e23 he23 ?_)
  refine g_iinc (pc := 169) (v := (a1 + (1 : Int32))) (lv' := [(1, .int (a1 + (1 : Int32))), (0, .ref (ad K c0))]) 1 S dX10_sees_169 rfl (by rfl) (by decide) rfl ?_
  refine g_lti (C := fun v1_24 => Go K (169 + 3) [(1, .int v1_24), (0, .ref (ad K c0))] [] e23) hyp (fun v1_24 hyp => ?_)
  refine g_goto (pc := 172) (tgt := 21) S dX10_sees_172 (by decide) ?_
  have hyp := Option.some.inj hyp
  subst hyp
  exact g_sub [1, 0] rfl (hin (v1_24, e23) rfl)
set_option maxRecDepth 100000 in
set_option maxHeartbeats 4000000 in
theorem o_X10_sees_l21 {K : gK} (S : Cx K RX10 cX10_sees 7 2 61) {c0 : Nat} (k0 : kd c0 (10 + 10, 0)) (a1 : Int32) (h : Hp) {o : (Int32 × Hp) ⊕ (Hp)} (hyp : s_X10_sees_l21 c0 a1 h = some o) (hin : ∀ s', o = .inl s' → Go K 21 [(0, .ref (ad K c0)), (1, .int s'.1)] [] s'.2) (hex0 : ∀ s', o = .inr (s') → Go K 175 [(0, .ref (ad K c0))] [] s') : Go K 21 [(0, .ref (ad K c0)), (1, .int a1)] [] h := by
  unfold s_X10_sees_l21 at hyp
  refine g_iload_n (pc := 21) 1 S dX10_sees_21 rfl ?_
  refine g_aload_n (pc := 22) 0 S dX10_sees_22 rfl ?_
  refine g_getI (pc := 23) S dX10_sees_23 fl_X10_142 k0 ?_
  refine g_icmp_ge (pc := 26) (tgt := 175) S dX10_sees_26 (by decide) hyp (fun hyp => ?_) (fun hyp => ?_)
  · refine g_aload_n (pc := 29) 0 S dX10_sees_29 rfl ?_
    refine g_getR (pc := 30) S dX10_sees_30 fl_X10_48 k0 ?_
    refine g_iload_n (pc := 33) 1 S dX10_sees_33 rfl ?_
    refine g_lald (pc := 34) S dX10_sees_34 (kf_10_12 k0) hyp (fun x5 hyp => ?_)
    refine g_lconst (pc := 35) (v := (0 : Int64)) S dX10_sees_35 (by decide) ?_
    refine g_lcmp_ne (pc := 36) (tgt := 62) S dX10_sees_36 dX10_sees_37 (by decide) hyp (fun hyp => ?_) (fun hyp => ?_)
    · refine g_aload_n (pc := 40) 0 S dX10_sees_40 rfl ?_
      refine g_aload_n (pc := 41) 0 S dX10_sees_41 rfl ?_
      refine g_getR (pc := 42) S dX10_sees_42 fl_X10_45 k0 ?_
      refine g_iload_n (pc := 45) 1 S dX10_sees_45 rfl ?_
      refine g_lald (pc := 46) S dX10_sees_46 (kf_10_11 k0) hyp (fun x6 hyp => ?_)
      refine g_aload_n (pc := 47) 0 S dX10_sees_47 rfl ?_
      refine g_getR (pc := 48) S dX10_sees_48 fl_X10_51 k0 ?_
      refine g_iload_n (pc := 51) 1 S dX10_sees_51 rfl ?_
      refine g_lald (pc := 52) S dX10_sees_52 (kf_10_13 k0) hyp (fun x7 hyp => ?_)
      refine g_aload_n (pc := 53) 0 S dX10_sees_53 rfl ?_
      refine g_getR (pc := 54) S dX10_sees_54 fl_X10_54 k0 ?_
      refine g_iload_n (pc := 57) 1 S dX10_sees_57 rfl ?_
      refine g_iald (pc := 58) S dX10_sees_58 (kf_10_14 k0) hyp (fun x8 hyp => ?_)
      refine g_bind hyp (fun y9 hy9 hyp => ?_)
      refine g_callV (pc := 59) (As := [.long x6, .long x7, .int x8]) (rest := []) S dX10_sees_59 k0 rfl tw_1076 tw_1077 tw_48 mw_X10_cuts (m_X10_cuts k0 x6 x7 x8 h hy9) rfl rfl (Nat.le_of_ble_eq_true rfl) (Nat.le_of_ble_eq_true rfl) (Nat.le_of_ble_eq_true rfl) ?_
      exact g_sub [0, 1] rfl (o_X10_sees_b62 S k0 a1 y9 hyp hin hex0)
    · exact g_sub [0, 1] rfl (o_X10_sees_b62 S k0 a1 h hyp hin hex0)
  · have hyp := Option.some.inj hyp
    subst hyp
    exact g_sub [0] rfl (hex0 h rfl)
set_option maxRecDepth 100000 in
set_option maxHeartbeats 4000000 in
theorem o_X10_sees_b248 {K : gK} (S : Cx K RX10 cX10_sees 7 2 61) {c0 : Nat} (k0 : kd c0 (10 + 10, 0)) (t0 : Int32) (h : Hp) {o : Hp} (hyp : s_X10_sees_b248 c0 t0 h = some o) (F : Rt K none none o) : Go K 248 [] [.int t0, .ref (ad K c0)] h := by
  unfold s_X10_sees_b248 at hyp
  refine g_ckB hyp (fun hz hyp => ?_)
  refine g_putZ (pc := 248) S dX10_sees_248 fl_X10_149 k0 hz hyp (fun h27 hyp => ?_)
  have hyp := Option.some.inj hyp
  subst hyp
  exact g_vret (pc := 251) S F dX10_sees_251
set_option maxRecDepth 100000 in
set_option maxHeartbeats 4000000 in
theorem o_X10_sees_b243 {K : gK} (S : Cx K RX10 cX10_sees 7 2 61) {c0 : Nat} (k0 : kd c0 (10 + 10, 0))  (h : Hp) {o : Hp} (hyp : s_X10_sees_b243 c0  h = some o) (F : Rt K none none o) : Go K 243 [] [.ref (ad K c0)] h := by
  unfold s_X10_sees_b243 at hyp
  refine g_iconst (pc := 243) (v := (1 : Int32)) S dX10_sees_243 (by decide) ?_
  refine g_goto (pc := 244) (tgt := 248) S dX10_sees_244 (by decide) ?_
  exact g_sub [] rfl (o_X10_sees_b248 S k0 (1 : Int32) h hyp F)
set_option maxRecDepth 100000 in
set_option maxHeartbeats 4000000 in
theorem o_X10_sees_b247 {K : gK} (S : Cx K RX10 cX10_sees 7 2 61) {c0 : Nat} (k0 : kd c0 (10 + 10, 0))  (h : Hp) {o : Hp} (hyp : s_X10_sees_b247 c0  h = some o) (F : Rt K none none o) : Go K 247 [] [.ref (ad K c0)] h := by
  unfold s_X10_sees_b247 at hyp
  refine g_iconst (pc := 247) (v := (0 : Int32)) S dX10_sees_247 (by decide) ?_
  exact g_sub [] rfl (o_X10_sees_b248 S k0 (0 : Int32) h hyp F)
set_option maxRecDepth 100000 in
set_option maxHeartbeats 4000000 in
theorem o_X10_sees {K : gK} (S : Cx K RX10 cX10_sees 7 2 61) {c0 : Nat} (k0 : kd c0 (10 + 10, 0))  (h : Hp) {o : Hp} (hyp : s_X10_sees c0  h = some o) (F : Rt K none none o) : Go K 0 [(0, .ref (ad K c0))] [] h := by
  unfold s_X10_sees at hyp
  refine g_aload_n (pc := 0) 0 S dX10_sees_0 rfl ?_
  refine g_bind hyp (fun y1 hy1 hyp => ?_)
  refine g_callV (pc := 1) (As := []) (rest := []) S dX10_sees_1 k0 rfl tw_1070 tw_1071 tw_46 mw_X10_withoutZ (m_X10_withoutZ k0  h hy1) rfl rfl (Nat.le_of_ble_eq_true rfl) (Nat.le_of_ble_eq_true rfl) (Nat.le_of_ble_eq_true rfl) ?_
  refine g_aload_n (pc := 4) 0 S dX10_sees_4 rfl ?_
  refine g_iconst (pc := 5) (v := (0 : Int32)) S dX10_sees_5 (by decide) ?_
  refine g_putZ (pc := 6) S dX10_sees_6 fl_X10_167 k0 (Or.inl rfl) hyp (fun h2 hyp => ?_)
  refine g_aload_n (pc := 9) 0 S dX10_sees_9 rfl ?_
  refine g_iconst (pc := 10) (v := (0 : Int32)) S dX10_sees_10 (by decide) ?_
  refine g_putZ (pc := 11) S dX10_sees_11 fl_X10_153 k0 (Or.inl rfl) hyp (fun h3 hyp => ?_)
  refine g_aload_n (pc := 14) 0 S dX10_sees_14 rfl ?_
  refine g_iconst (pc := 15) (v := (0 : Int32)) S dX10_sees_15 (by decide) ?_
  refine g_putZ (pc := 16) S dX10_sees_16 fl_X10_149 k0 (Or.inl rfl) hyp (fun h4 hyp => ?_)
  refine g_iconst (pc := 19) (v := (0 : Int32)) S dX10_sees_19 (by decide) ?_
  refine g_istore_n (pc := 20) (lv' := [(1, .int (0 : Int32)), (0, .ref (ad K c0))]) S dX10_sees_20 rfl (by decide) rfl ?_
  refine g_bind hyp (fun e25 he25 hyp => ?_)
  refine g_sub [1, 0] rfl (g_loop (f := fun s : Int32 × Hp => s_X10_sees_l21 c0 s.1 s.2) (ρ := Hp) (Hd := fun s : Int32 × Hp => Go K 21 [(0, .ref (ad K c0)), (1, .int s.1)] [] s.2) (Ex := fun e25 => Go K 175 [(0, .ref (ad K c0))] [] e25) (fun s o h1 h2 h3 => o_X10_sees_l21 S k0 s.1 s.2 h1 h2 h3) FUEL _ e25 he25 ?_)
  refine g_aload_n (pc := 175) 0 S dX10_sees_175 rfl ?_
  refine g_getI (pc := 176) S dX10_sees_176 fl_X10_167 k0 ?_
  refine g_if_eq (pc := 179) (tgt := 251) S dX10_sees_179 (by decide) hyp (fun hyp => ?_) (fun hyp => ?_)
  · have hyp := Option.some.inj hyp
    subst hyp
    exact g_vret (pc := 251) S F dX10_sees_251
  · refine g_aload_n (pc := 182) 0 S dX10_sees_182 rfl ?_
    refine g_getI (pc := 183) S dX10_sees_183 fl_X10_153 k0 ?_
    refine g_if_eq (pc := 186) (tgt := 251) S dX10_sees_186 (by decide) hyp (fun hyp => ?_) (fun hyp => ?_)
    · have hyp := Option.some.inj hyp
      subst hyp
      exact g_vret (pc := 251) S F dX10_sees_251
    · refine g_aload_n (pc := 189) 0 S dX10_sees_189 rfl ?_
      refine g_getJ (pc := 190) S dX10_sees_190 fl_X10_159 k0 ?_
      refine g_aload_n (pc := 193) 0 S dX10_sees_193 rfl ?_
      refine g_getJ (pc := 194) S dX10_sees_194 fl_X10_170 k0 ?_
      refine g_lmul (pc := 197) S dX10_sees_197 ?_
      refine g_aload_n (pc := 198) 0 S dX10_sees_198 rfl ?_
      refine g_getJ (pc := 199) S dX10_sees_199 fl_X10_173 k0 ?_
      refine g_aload_n (pc := 202) 0 S dX10_sees_202 rfl ?_
      refine g_getJ (pc := 203) S dX10_sees_203 fl_X10_156 k0 ?_
      refine g_lmul (pc := 206) S dX10_sees_206 ?_
      refine g_lsub (pc := 207) S dX10_sees_207 ?_
      refine g_lti (C := fun v1_26 => Go K 208 [(0, .ref (ad K c0))] [.long v1_26] e25) hyp (fun v1_26 hyp => ?_)
      refine g_lstore_n (pc := 208) (lv' := [(1, .long v1_26), (0, .ref (ad K c0))]) S dX10_sees_208 rfl (by decide) rfl ?_
      refine g_aload_n (pc := 209) 1 S dX10_sees_209 rfl ?_
      refine g_aload_n (pc := 210) 1 S dX10_sees_210 rfl ?_
      refine g_getI (pc := 211) S dX10_sees_211 fl_X10_149 k0 ?_
      refine g_if_ne (pc := 214) (tgt := 243) S dX10_sees_214 (by decide) hyp (fun hyp => ?_) (fun hyp => ?_)
      · refine g_lload_n (pc := 217) 0 S dX10_sees_217 rfl ?_
        refine g_lconst (pc := 218) (v := (0 : Int64)) S dX10_sees_218 (by decide) ?_
        refine g_lcmp_lt (pc := 219) (tgt := 243) S dX10_sees_219 dX10_sees_220 (by decide) hyp (fun hyp => ?_) (fun hyp => ?_)
        · exact g_sub [] rfl (o_X10_sees_b243 S k0  e25 hyp F)
        · refine g_lload_n (pc := 223) 0 S dX10_sees_223 rfl ?_
          refine g_lconst (pc := 224) (v := (0 : Int64)) S dX10_sees_224 (by decide) ?_
          refine g_lcmp_ne (pc := 225) (tgt := 247) S dX10_sees_225 dX10_sees_226 (by decide) hyp (fun hyp => ?_) (fun hyp => ?_)
          · refine g_aload_n (pc := 229) 1 S dX10_sees_229 rfl ?_
            refine g_getI (pc := 230) S dX10_sees_230 fl_X10_176 k0 ?_
            refine g_if_ne (pc := 233) (tgt := 243) S dX10_sees_233 (by decide) hyp (fun hyp => ?_) (fun hyp => ?_)
            · refine g_aload_n (pc := 236) 1 S dX10_sees_236 rfl ?_
              refine g_getI (pc := 237) S dX10_sees_237 fl_X10_164 k0 ?_
              refine g_if_eq (pc := 240) (tgt := 247) S dX10_sees_240 (by decide) hyp (fun hyp => ?_) (fun hyp => ?_)
              · exact g_sub [] rfl (o_X10_sees_b247 S k0  e25 hyp F)
              · exact g_sub [] rfl (o_X10_sees_b243 S k0  e25 hyp F)
            · exact g_sub [] rfl (o_X10_sees_b243 S k0  e25 hyp F)
          · exact g_sub [] rfl (o_X10_sees_b247 S k0  e25 hyp F)
      · exact g_sub [] rfl (o_X10_sees_b243 S k0  e25 hyp F)
theorem m_X10_sees {l : Launch} {D : va_G} {cT : Nat → ClassId} {aD : Nat → Nat} {c0 : Nat} (k0 : kd c0 (10 + 10, 0))  (h : Hp) {o : Hp} (hyp : s_X10_sees c0  h = some o) : Ok l D cT aD yX10_sees cX10_sees 7 none 2 61 [.ref (aD c0)] h none o :=
  Ok.of (by decide +kernel) rfl (Nat.le_of_ble_eq_true rfl) (fun K e1 e2 e3 e4 S F => by subst e1; exact o_X10_sees S k0  h hyp F)
-- BoundProofsModel coefficientOf (II)I
noncomputable def s_X10_coefficientOf (c0 : Nat) (a1 : Int32) (a2 : Int32) (h : Hp) : Option (Int32) :=
  ldI h (c0 + 2) 30 ((3 : Int32) * a1) fun x1 =>
  ldI h (c0 + 1) 24 (((3 : Int32) * x1) + a2) fun x2 =>
  some x2
set_option maxRecDepth 100000 in
set_option maxHeartbeats 4000000 in
theorem o_X10_coefficientOf {K : gK} (S : Cx K RX10 cX10_coefficientOf 3 0 0) {c0 : Nat} (k0 : kd c0 (10 + 10, 0)) (a1 : Int32) (a2 : Int32) (h : Hp) {o : Int32} (hyp : s_X10_coefficientOf c0 a1 a2 h = some o) (F : Rt K (some .int) (some (.int o)) h) : Go K 0 [(0, .ref (ad K c0)), (1, .int a1), (2, .int a2)] [] h := by
  unfold s_X10_coefficientOf at hyp
  refine g_aload_n (pc := 0) 0 S dX10_coefficientOf_0 rfl ?_
  refine g_getR (pc := 1) S dX10_coefficientOf_1 fl_X10_13 k0 ?_
  refine g_iconst (pc := 4) (v := (3 : Int32)) S dX10_coefficientOf_4 (by decide) ?_
  refine g_aload_n (pc := 5) 0 S dX10_coefficientOf_5 rfl ?_
  refine g_getR (pc := 6) S dX10_coefficientOf_6 fl_X10_17 k0 ?_
  refine g_iconst (pc := 9) (v := (3 : Int32)) S dX10_coefficientOf_9 (by decide) ?_
  refine g_iload_n (pc := 10) 1 S dX10_coefficientOf_10 rfl ?_
  refine g_imul (pc := 11) S dX10_coefficientOf_11 ?_
  refine g_iald (pc := 12) S dX10_coefficientOf_12 (kf_10_2 k0) hyp (fun x1 hyp => ?_)
  refine g_imul (pc := 13) S dX10_coefficientOf_13 ?_
  refine g_iload_n (pc := 14) 2 S dX10_coefficientOf_14 rfl ?_
  refine g_iadd (pc := 15) S dX10_coefficientOf_15 ?_
  refine g_iald (pc := 16) S dX10_coefficientOf_16 (kf_10_1 k0) hyp (fun x2 hyp => ?_)
  have hyp := Option.some.inj hyp
  subst hyp
  exact g_iret (pc := 17) S F dX10_coefficientOf_17
theorem m_X10_coefficientOf {l : Launch} {D : va_G} {cT : Nat → ClassId} {aD : Nat → Nat} {c0 : Nat} (k0 : kd c0 (10 + 10, 0)) (a1 : Int32) (a2 : Int32) (h : Hp) {o : Int32} (hyp : s_X10_coefficientOf c0 a1 a2 h = some o) : Ok l D cT aD yX10_coefficientOf cX10_coefficientOf 3 (some .int) 0 0 [.ref (aD c0), .int a1, .int a2] h (some (.int o)) h :=
  Ok.of (by decide +kernel) rfl (Nat.le_of_ble_eq_true rfl) (fun K e1 e2 e3 e4 S F => by subst e1; exact o_X10_coefficientOf S k0 a1 a2 h hyp F)
-- BoundProofsModel setRows (I)V
noncomputable def s_X10_setRows_b70 (c0 : Nat) (a1 : Int32) (a2 : Int32) (h : Hp) : Option ((Int32 × Hp) ⊕ (Hp)) :=
  lt (a2 + (1 : Int32)) fun v2_8 =>
  some (.inl (v2_8, h))
noncomputable def s_X10_setRows_l7 (c0 : Nat) (a1 : Int32) (a2 : Int32) (h : Hp) : Option ((Int32 × Hp) ⊕ (Hp)) :=
  if a2 < (h.1 c0 3) then (if ((a1 >>> (a2 &&& 31)) &&& (1 : Int32)) = (1 : Int32) then (ldI h (c0 + 2) 30 (((3 : Int32) * a2) + (1 : Int32)) fun x2 =>
  (s_X10_coefficientOf c0 a2 (0 : Int32) h).bind fun y3 =>
  (s_X10_coefficientOf c0 a2 (1 : Int32) h).bind fun y4 =>
  (s_X10_coefficientOf c0 a2 (2 : Int32) h).bind fun y5 =>
  ldI h (c0 + 2) 30 (((3 : Int32) * a2) + (2 : Int32)) fun x6 =>
  (s_X10_comesBySort c0 x2 (y3).toInt64 (y4).toInt64 (y5).toInt64 (x6).toInt64 h).bind fun y7 =>
  s_X10_setRows_b70 c0 a1 a2 y7)
  else (s_X10_setRows_b70 c0 a1 a2 h))
  else (some (.inr (h)))
noncomputable def s_X10_setRows (c0 : Nat) (a1 : Int32) (h : Hp) : Option (Hp) :=
  lt (sI h c0 9 (0 : Int32)) fun h1 =>
  (iter (fun s : Int32 × Hp => s_X10_setRows_l7 c0 a1 s.1 s.2) FUEL ((0 : Int32), h1)).bind fun e9 =>
  some e9
set_option maxRecDepth 100000 in
set_option maxHeartbeats 4000000 in
theorem o_X10_setRows_b70 {K : gK} (S : Cx K RX10 cX10_setRows 3 2 66) {c0 : Nat} (k0 : kd c0 (10 + 10, 0)) (a1 : Int32) (a2 : Int32) (h : Hp) {o : (Int32 × Hp) ⊕ (Hp)} (hyp : s_X10_setRows_b70 c0 a1 a2 h = some o) (hin : ∀ s', o = .inl s' → Go K 7 [(0, .ref (ad K c0)), (1, .int a1), (2, .int s'.1)] [] s'.2) (hex0 : ∀ s', o = .inr (s') → Go K 76 [] [] s') : Go K 70 [(0, .ref (ad K c0)), (1, .int a1), (2, .int a2)] [] h := by
  unfold s_X10_setRows_b70 at hyp
  refine g_iinc (pc := 70) (v := (a2 + (1 : Int32))) (lv' := [(2, .int (a2 + (1 : Int32))), (0, .ref (ad K c0)), (1, .int a1)]) 2 S dX10_setRows_70 rfl (by rfl) (by decide) rfl ?_
  refine g_lti (C := fun v2_8 => Go K (70 + 3) [(2, .int v2_8), (0, .ref (ad K c0)), (1, .int a1)] [] h) hyp (fun v2_8 hyp => ?_)
  refine g_goto (pc := 73) (tgt := 7) S dX10_setRows_73 (by decide) ?_
  have hyp := Option.some.inj hyp
  subst hyp
  exact g_sub [1, 2, 0] rfl (hin (v2_8, h) rfl)
set_option maxRecDepth 100000 in
set_option maxHeartbeats 4000000 in
theorem o_X10_setRows_l7 {K : gK} (S : Cx K RX10 cX10_setRows 3 2 66) {c0 : Nat} (k0 : kd c0 (10 + 10, 0)) (a1 : Int32) (a2 : Int32) (h : Hp) {o : (Int32 × Hp) ⊕ (Hp)} (hyp : s_X10_setRows_l7 c0 a1 a2 h = some o) (hin : ∀ s', o = .inl s' → Go K 7 [(0, .ref (ad K c0)), (1, .int a1), (2, .int s'.1)] [] s'.2) (hex0 : ∀ s', o = .inr (s') → Go K 76 [] [] s') : Go K 7 [(0, .ref (ad K c0)), (1, .int a1), (2, .int a2)] [] h := by
  unfold s_X10_setRows_l7 at hyp
  refine g_iload_n (pc := 7) 2 S dX10_setRows_7 rfl ?_
  refine g_aload_n (pc := 8) 0 S dX10_setRows_8 rfl ?_
  refine g_getI (pc := 9) S dX10_setRows_9 fl_X10_97 k0 ?_
  refine g_icmp_ge (pc := 12) (tgt := 76) S dX10_setRows_12 (by decide) hyp (fun hyp => ?_) (fun hyp => ?_)
  · refine g_iload_n (pc := 15) 1 S dX10_setRows_15 rfl ?_
    refine g_iload_n (pc := 16) 2 S dX10_setRows_16 rfl ?_
    refine g_ishr (pc := 17) S dX10_setRows_17 ?_
    refine g_iconst (pc := 18) (v := (1 : Int32)) S dX10_setRows_18 (by decide) ?_
    refine g_iand (pc := 19) S dX10_setRows_19 ?_
    refine g_iconst (pc := 20) (v := (1 : Int32)) S dX10_setRows_20 (by decide) ?_
    refine g_icmp_ne (pc := 21) (tgt := 70) S dX10_setRows_21 (by decide) hyp (fun hyp => ?_) (fun hyp => ?_)
    · refine g_aload_n (pc := 24) 0 S dX10_setRows_24 rfl ?_
      refine g_aload_n (pc := 25) 0 S dX10_setRows_25 rfl ?_
      refine g_getR (pc := 26) S dX10_setRows_26 fl_X10_17 k0 ?_
      refine g_iconst (pc := 29) (v := (3 : Int32)) S dX10_setRows_29 (by decide) ?_
      refine g_iload_n (pc := 30) 2 S dX10_setRows_30 rfl ?_
      refine g_imul (pc := 31) S dX10_setRows_31 ?_
      refine g_iconst (pc := 32) (v := (1 : Int32)) S dX10_setRows_32 (by decide) ?_
      refine g_iadd (pc := 33) S dX10_setRows_33 ?_
      refine g_iald (pc := 34) S dX10_setRows_34 (kf_10_2 k0) hyp (fun x2 hyp => ?_)
      refine g_aload_n (pc := 35) 0 S dX10_setRows_35 rfl ?_
      refine g_iload_n (pc := 36) 2 S dX10_setRows_36 rfl ?_
      refine g_iconst (pc := 37) (v := (0 : Int32)) S dX10_setRows_37 (by decide) ?_
      refine g_bind hyp (fun y3 hy3 hyp => ?_)
      refine g_callV (pc := 38) (As := [.int a2, .int (0 : Int32)]) (rest := [.int x2, .ref (ad K c0)]) S dX10_setRows_38 k0 rfl tw_1058 tw_1059 tw_42 mw_X10_coefficientOf (m_X10_coefficientOf k0 a2 (0 : Int32) h hy3) rfl rfl (Nat.le_of_ble_eq_true rfl) (Nat.le_of_ble_eq_true rfl) (Nat.le_of_ble_eq_true rfl) ?_
      refine g_i2l (pc := 41) S dX10_setRows_41 ?_
      refine g_aload_n (pc := 42) 0 S dX10_setRows_42 rfl ?_
      refine g_iload_n (pc := 43) 2 S dX10_setRows_43 rfl ?_
      refine g_iconst (pc := 44) (v := (1 : Int32)) S dX10_setRows_44 (by decide) ?_
      refine g_bind hyp (fun y4 hy4 hyp => ?_)
      refine g_callV (pc := 45) (As := [.int a2, .int (1 : Int32)]) (rest := [.long (y3).toInt64, .int x2, .ref (ad K c0)]) S dX10_setRows_45 k0 rfl tw_1058 tw_1059 tw_42 mw_X10_coefficientOf (m_X10_coefficientOf k0 a2 (1 : Int32) h hy4) rfl rfl (Nat.le_of_ble_eq_true rfl) (Nat.le_of_ble_eq_true rfl) (Nat.le_of_ble_eq_true rfl) ?_
      refine g_i2l (pc := 48) S dX10_setRows_48 ?_
      refine g_aload_n (pc := 49) 0 S dX10_setRows_49 rfl ?_
      refine g_iload_n (pc := 50) 2 S dX10_setRows_50 rfl ?_
      refine g_iconst (pc := 51) (v := (2 : Int32)) S dX10_setRows_51 (by decide) ?_
      refine g_bind hyp (fun y5 hy5 hyp => ?_)
      refine g_callV (pc := 52) (As := [.int a2, .int (2 : Int32)]) (rest := [.long (y4).toInt64, .long (y3).toInt64, .int x2, .ref (ad K c0)]) S dX10_setRows_52 k0 rfl tw_1058 tw_1059 tw_42 mw_X10_coefficientOf (m_X10_coefficientOf k0 a2 (2 : Int32) h hy5) rfl rfl (Nat.le_of_ble_eq_true rfl) (Nat.le_of_ble_eq_true rfl) (Nat.le_of_ble_eq_true rfl) ?_
      refine g_i2l (pc := 55) S dX10_setRows_55 ?_
      refine g_aload_n (pc := 56) 0 S dX10_setRows_56 rfl ?_
      refine g_getR (pc := 57) S dX10_setRows_57 fl_X10_17 k0 ?_
      refine g_iconst (pc := 60) (v := (3 : Int32)) S dX10_setRows_60 (by decide) ?_
      refine g_iload_n (pc := 61) 2 S dX10_setRows_61 rfl ?_
      refine g_imul (pc := 62) S dX10_setRows_62 ?_
      refine g_iconst (pc := 63) (v := (2 : Int32)) S dX10_setRows_63 (by decide) ?_
      refine g_iadd (pc := 64) S dX10_setRows_64 ?_
      refine g_iald (pc := 65) S dX10_setRows_65 (kf_10_2 k0) hyp (fun x6 hyp => ?_)
      refine g_i2l (pc := 66) S dX10_setRows_66 ?_
      refine g_bind hyp (fun y7 hy7 hyp => ?_)
      refine g_callV (pc := 67) (As := [.int x2, .long (y3).toInt64, .long (y4).toInt64, .long (y5).toInt64, .long (x6).toInt64]) (rest := []) S dX10_setRows_67 k0 rfl tw_1061 tw_1062 tw_43 mw_X10_comesBySort (m_X10_comesBySort k0 x2 (y3).toInt64 (y4).toInt64 (y5).toInt64 (x6).toInt64 h hy7) rfl rfl (Nat.le_of_ble_eq_true rfl) (Nat.le_of_ble_eq_true rfl) (Nat.le_of_ble_eq_true rfl) ?_
      exact g_sub [0, 1, 2] rfl (o_X10_setRows_b70 S k0 a1 a2 y7 hyp hin hex0)
    · exact g_sub [0, 1, 2] rfl (o_X10_setRows_b70 S k0 a1 a2 h hyp hin hex0)
  · have hyp := Option.some.inj hyp
    subst hyp
    exact g_sub [] rfl (hex0 h rfl)
set_option maxRecDepth 100000 in
set_option maxHeartbeats 4000000 in
theorem o_X10_setRows {K : gK} (S : Cx K RX10 cX10_setRows 3 2 66) {c0 : Nat} (k0 : kd c0 (10 + 10, 0)) (a1 : Int32) (h : Hp) {o : Hp} (hyp : s_X10_setRows c0 a1 h = some o) (F : Rt K none none o) : Go K 0 [(0, .ref (ad K c0)), (1, .int a1)] [] h := by
  unfold s_X10_setRows at hyp
  refine g_aload_n (pc := 0) 0 S dX10_setRows_0 rfl ?_
  refine g_iconst (pc := 1) (v := (0 : Int32)) S dX10_setRows_1 (by decide) ?_
  refine g_putI (pc := 2) S dX10_setRows_2 fl_X10_135 k0 hyp (fun h1 hyp => ?_)
  refine g_iconst (pc := 5) (v := (0 : Int32)) S dX10_setRows_5 (by decide) ?_
  refine g_istore_n (pc := 6) (lv' := [(2, .int (0 : Int32)), (0, .ref (ad K c0)), (1, .int a1)]) S dX10_setRows_6 rfl (by decide) rfl ?_
  refine g_bind hyp (fun e9 he9 hyp => ?_)
  refine g_sub [1, 2, 0] rfl (g_loop (f := fun s : Int32 × Hp => s_X10_setRows_l7 c0 a1 s.1 s.2) (ρ := Hp) (Hd := fun s : Int32 × Hp => Go K 7 [(0, .ref (ad K c0)), (1, .int a1), (2, .int s.1)] [] s.2) (Ex := fun e9 => Go K 76 [] [] e9) (fun s o h1 h2 h3 => o_X10_setRows_l7 S k0 a1 s.1 s.2 h1 h2 h3) FUEL _ e9 he9 ?_)
  have hyp := Option.some.inj hyp
  subst hyp
  exact g_vret (pc := 76) S F dX10_setRows_76
theorem m_X10_setRows {l : Launch} {D : va_G} {cT : Nat → ClassId} {aD : Nat → Nat} {c0 : Nat} (k0 : kd c0 (10 + 10, 0)) (a1 : Int32) (h : Hp) {o : Hp} (hyp : s_X10_setRows c0 a1 h = some o) : Ok l D cT aD yX10_setRows cX10_setRows 3 none 2 66 [.ref (aD c0), .int a1] h none o :=
  Ok.of (by decide +kernel) rfl (Nat.le_of_ble_eq_true rfl) (fun K e1 e2 e3 e4 S F => by subst e1; exact o_X10_setRows S k0 a1 h hyp F)
-- BoundProofsModel allBounds ()I
noncomputable def s_X10_allBounds (c0 : Nat)  (h : Hp) : Option (Int32) :=
  some (((1 : Int32) <<< ((h.1 c0 3) &&& 31)) - (1 : Int32))
set_option maxRecDepth 100000 in
set_option maxHeartbeats 4000000 in
theorem o_X10_allBounds {K : gK} (S : Cx K RX10 cX10_allBounds 1 0 0) {c0 : Nat} (k0 : kd c0 (10 + 10, 0))  (h : Hp) {o : Int32} (hyp : s_X10_allBounds c0  h = some o) (F : Rt K (some .int) (some (.int o)) h) : Go K 0 [(0, .ref (ad K c0))] [] h := by
  unfold s_X10_allBounds at hyp
  refine g_iconst (pc := 0) (v := (1 : Int32)) S dX10_allBounds_0 (by decide) ?_
  refine g_aload_n (pc := 1) 0 S dX10_allBounds_1 rfl ?_
  refine g_getI (pc := 2) S dX10_allBounds_2 fl_X10_97 k0 ?_
  refine g_ishl (pc := 5) S dX10_allBounds_5 ?_
  refine g_iconst (pc := 6) (v := (1 : Int32)) S dX10_allBounds_6 (by decide) ?_
  refine g_isub (pc := 7) S dX10_allBounds_7 ?_
  have hyp := Option.some.inj hyp
  subst hyp
  exact g_iret (pc := 8) S F dX10_allBounds_8
theorem m_X10_allBounds {l : Launch} {D : va_G} {cT : Nat → ClassId} {aD : Nat → Nat} {c0 : Nat} (k0 : kd c0 (10 + 10, 0))  (h : Hp) {o : Int32} (hyp : s_X10_allBounds c0  h = some o) : Ok l D cT aD yX10_allBounds cX10_allBounds 1 (some .int) 0 0 [.ref (aD c0)] h (some (.int o)) h :=
  Ok.of (by decide +kernel) rfl (Nat.le_of_ble_eq_true rfl) (fun K e1 e2 e3 e4 S F => by subst e1; exact o_X10_allBounds S k0  h hyp F)
-- BoundProofsModel canBe (I)Z
noncomputable def s_X10_canBe (c0 : Nat) (a1 : Int32) (h : Hp) : Option (Int32 × Hp) :=
  (s_X10_setRows c0 a1 h).bind fun y1 =>
  (s_X10_sees c0  y1).bind fun y2 =>
  if (y2.1 c0 28) = 0 then (some ((1 : Int32), y2))
  else (some ((0 : Int32), y2))
set_option maxRecDepth 100000 in
set_option maxHeartbeats 4000000 in
theorem o_X10_canBe {K : gK} (S : Cx K RX10 cX10_canBe 2 3 92) {c0 : Nat} (k0 : kd c0 (10 + 10, 0)) (a1 : Int32) (h : Hp) {o : Int32 × Hp} (hyp : s_X10_canBe c0 a1 h = some o) (F : Rt K (some .boolean) (some (.int o.1)) o.2) : Go K 0 [(0, .ref (ad K c0)), (1, .int a1)] [] h := by
  unfold s_X10_canBe at hyp
  refine g_aload_n (pc := 0) 0 S dX10_canBe_0 rfl ?_
  refine g_iload_n (pc := 1) 1 S dX10_canBe_1 rfl ?_
  refine g_bind hyp (fun y1 hy1 hyp => ?_)
  refine g_callV (pc := 2) (As := [.int a1]) (rest := []) S dX10_canBe_2 k0 rfl tw_1055 tw_1056 tw_41 mw_X10_setRows (m_X10_setRows k0 a1 h hy1) rfl rfl (Nat.le_of_ble_eq_true rfl) (Nat.le_of_ble_eq_true rfl) (Nat.le_of_ble_eq_true rfl) ?_
  refine g_aload_n (pc := 5) 0 S dX10_canBe_5 rfl ?_
  refine g_bind hyp (fun y2 hy2 hyp => ?_)
  refine g_callV (pc := 6) (As := []) (rest := []) S dX10_canBe_6 k0 rfl tw_1067 tw_1068 tw_45 mw_X10_sees (m_X10_sees k0  y1 hy2) rfl rfl (Nat.le_of_ble_eq_true rfl) (Nat.le_of_ble_eq_true rfl) (Nat.le_of_ble_eq_true rfl) ?_
  refine g_aload_n (pc := 9) 0 S dX10_canBe_9 rfl ?_
  refine g_getI (pc := 10) S dX10_canBe_10 fl_X10_149 k0 ?_
  refine g_if_ne (pc := 13) (tgt := 20) S dX10_canBe_13 (by decide) hyp (fun hyp => ?_) (fun hyp => ?_)
  · refine g_iconst (pc := 16) (v := (1 : Int32)) S dX10_canBe_16 (by decide) ?_
    refine g_goto (pc := 17) (tgt := 21) S dX10_canBe_17 (by decide) ?_
    have hyp := Option.some.inj hyp
    subst hyp
    exact g_zret (pc := 21) S F dX10_canBe_21 (Or.inr rfl)
  · refine g_iconst (pc := 20) (v := (0 : Int32)) S dX10_canBe_20 (by decide) ?_
    have hyp := Option.some.inj hyp
    subst hyp
    exact g_zret (pc := 21) S F dX10_canBe_21 (Or.inl rfl)
theorem m_X10_canBe {l : Launch} {D : va_G} {cT : Nat → ClassId} {aD : Nat → Nat} {c0 : Nat} (k0 : kd c0 (10 + 10, 0)) (a1 : Int32) (h : Hp) {o : Int32 × Hp} (hyp : s_X10_canBe c0 a1 h = some o) : Ok l D cT aD yX10_canBe cX10_canBe 2 (some .boolean) 3 92 [.ref (aD c0), .int a1] h (some (.int o.1)) o.2 :=
  Ok.of (by decide +kernel) rfl (Nat.le_of_ble_eq_true rfl) (fun K e1 e2 e3 e4 S F => by subst e1; exact o_X10_canBe S k0 a1 h hyp F)
-- BoundProofsModel met ()I
noncomputable def s_X10_met (c0 : Nat)  (h : Hp) : Option (Int32 × Hp) :=
  (s_X10_allBounds c0  h).bind fun y1 =>
  (s_X10_canBe c0 y1 h).bind fun y2 =>
  if y2.1 = 0 then (some ((0 : Int32), y2.2))
  else (some ((1 : Int32), y2.2))
set_option maxRecDepth 100000 in
set_option maxHeartbeats 4000000 in
theorem o_X10_met {K : gK} (S : Cx K RX10 cX10_met 1 4 117) {c0 : Nat} (k0 : kd c0 (10 + 10, 0))  (h : Hp) {o : Int32 × Hp} (hyp : s_X10_met c0  h = some o) (F : Rt K (some .int) (some (.int o.1)) o.2) : Go K 0 [(0, .ref (ad K c0))] [] h := by
  unfold s_X10_met at hyp
  refine g_aload_n (pc := 0) 0 S dX10_met_0 rfl ?_
  refine g_aload_n (pc := 1) 0 S dX10_met_1 rfl ?_
  refine g_bind hyp (fun y1 hy1 hyp => ?_)
  refine g_callV (pc := 2) (As := []) (rest := [.ref (ad K c0)]) S dX10_met_2 k0 rfl tw_1049 tw_1050 tw_39 mw_X10_allBounds (m_X10_allBounds k0  h hy1) rfl rfl (Nat.le_of_ble_eq_true rfl) (Nat.le_of_ble_eq_true rfl) (Nat.le_of_ble_eq_true rfl) ?_
  refine g_bind hyp (fun y2 hy2 hyp => ?_)
  refine g_callV (pc := 5) (As := [.int y1]) (rest := []) S dX10_met_5 k0 rfl tw_1052 tw_1053 tw_40 mw_X10_canBe (m_X10_canBe k0 y1 h hy2) rfl rfl (Nat.le_of_ble_eq_true rfl) (Nat.le_of_ble_eq_true rfl) (Nat.le_of_ble_eq_true rfl) ?_
  refine g_if_eq (pc := 8) (tgt := 15) S dX10_met_8 (by decide) hyp (fun hyp => ?_) (fun hyp => ?_)
  · refine g_iconst (pc := 15) (v := (0 : Int32)) S dX10_met_15 (by decide) ?_
    have hyp := Option.some.inj hyp
    subst hyp
    exact g_iret (pc := 16) S F dX10_met_16
  · refine g_iconst (pc := 11) (v := (1 : Int32)) S dX10_met_11 (by decide) ?_
    refine g_goto (pc := 12) (tgt := 16) S dX10_met_12 (by decide) ?_
    have hyp := Option.some.inj hyp
    subst hyp
    exact g_iret (pc := 16) S F dX10_met_16
theorem m_X10_met {l : Launch} {D : va_G} {cT : Nat → ClassId} {aD : Nat → Nat} {c0 : Nat} (k0 : kd c0 (10 + 10, 0))  (h : Hp) {o : Int32 × Hp} (hyp : s_X10_met c0  h = some o) : Ok l D cT aD yX10_met cX10_met 1 (some .int) 4 117 [.ref (aD c0)] h (some (.int o.1)) o.2 :=
  Ok.of (by decide +kernel) rfl (Nat.le_of_ble_eq_true rfl) (fun K e1 e2 e3 e4 S F => by subst e1; exact o_X10_met S k0  h hyp F)
