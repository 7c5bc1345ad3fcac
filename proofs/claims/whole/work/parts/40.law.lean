/-! the law: its script, its calls two by two, its loop -/
theorem g_sld {K : gK} {own : String} {cc : ByteArray} {nL fr lo pc : Nat} {lv : List (Nat × Value)} {st : List Value} {h : Hp} {b L : Nat} {xs : Nat → Int32} {i : Int32} (S : Cx K own cc nL fr lo) (hX : va_X b L xs K.2.1.1 K.2.1.1.heap) (hbl : b < K.2.1.1.heap.size) (hbA : ¬ K.2.2.2.1.2.2.2 b) (d : decode cc pc = .ok (.iaload, 1)) (hi : vp_in i L) (k : Go K (pc + 1) lv (.int (xs i.toNatClampNeg) :: st) h) : Go K pc lv (.int i :: .ref b :: st) h := by
  obtain ⟨⟨p, l, e, R⟩, ⟨s, m, args, below⟩, ⟨meth, c0, cells, slots⟩, ⟨D, cT, aD, A⟩, Q⟩ := K
  obtain ⟨hx, hb, hml, hown, hts, hK, hJ, hA, hAs, hce, hsl, hfr, hlo, hNW⟩ := S
  exact fun H locs ls hl hP hS => va_sld hx hb hX hbl hbA hS hi d (k H locs ls hl hP hS)
theorem g_slen {K : gK} {own : String} {cc : ByteArray} {nL fr lo pc : Nat} {lv : List (Nat × Value)} {st : List Value} {h : Hp} {b L : Nat} {xs : Nat → Int32} (S : Cx K own cc nL fr lo) (hX : va_X b L xs K.2.1.1 K.2.1.1.heap) (hbl : b < K.2.1.1.heap.size) (hbA : ¬ K.2.2.2.1.2.2.2 b) (d : decode cc pc = .ok (.arraylength, 1)) (k : Go K (pc + 1) lv (.int (nI L) :: st) h) : Go K pc lv (.ref b :: st) h := by
  obtain ⟨⟨p, l, e, R⟩, ⟨s, m, args, below⟩, ⟨meth, c0, cells, slots⟩, ⟨D, cT, aD, A⟩, Q⟩ := K
  obtain ⟨hx, hb, hml, hown, hts, hK, hJ, hA, hAs, hce, hsl, hfr, hlo, hNW⟩ := S
  exact fun H locs ls hl hP hS => va_slen hx hb hX hbl hbA hS d (k H locs ls hl hP hS)
theorem kd_x : kd 0 (10 + 9, 0) := rfl
theorem kd_m : kd 66 (10 + 10, 0) := rfl
set_option maxHeartbeats 4000000 in
theorem lc_0 {K : gK} (S : Cx K RL cL_law 4 8 322) {b L : Nat} {xs : Nat → Int32} (hX : va_X b L xs K.2.1.1 K.2.1.1.heap) (hbl : b < K.2.1.1.heap.size) (hbA : ¬ K.2.2.2.1.2.2.2 b) {i : Int32} (hi1 : vp_in (i + 1) L) {h : Hp} (r : Int32) (h1 : Hp) (h2 : Hp) (ex : s_X9_type 0 (xs (i + 1).toNatClampNeg) h = some (r, h1)) (em : s_X10_type 66 (xs (i + 1).toNatClampNeg) h1 = some (r, h2)) (kk : Go K 877 [(0, .ref b), (1, .ref (ad K 0)), (2, .ref (ad K 66)), (3, .int i)] [] h2) : Go K 160 [(0, .ref b), (1, .ref (ad K 0)), (2, .ref (ad K 66)), (3, .int i)] [] h := by
  refine g_aload_n (pc := 160) 1 S dL_law_160 rfl ?_
  refine g_aload_n (pc := 161) 0 S dL_law_161 rfl ?_
  refine g_iload_n (pc := 162) 3 S dL_law_162 rfl ?_
  refine g_iconst (pc := 163) (v := (1 : Int32)) S dL_law_163 (by decide) ?_
  refine g_iadd (pc := 164) S dL_law_164 ?_
  refine g_sld (pc := 165) S hX hbl hbA dL_law_165 hi1 ?_
  refine g_callV (pc := 166) (As := [.int (xs (i + 1).toNatClampNeg)]) (rest := []) (r := some (.int r)) (h' := h1) S dL_law_166 kd_x rfl (lx_in_10 _ (List.mem_of_getElem? (i := 23) rfl)) (lx_in_10 _ (List.mem_of_getElem? (i := 24) rfl)) (lx_in_10 _ (List.mem_of_getElem? (i := 25) rfl)) mw_X9_type (m_X9_type kd_x (xs (i + 1).toNatClampNeg) h ex) rfl rfl (Nat.le_of_ble_eq_true rfl) (Nat.le_of_ble_eq_true rfl) (Nat.le_of_ble_eq_true rfl) ?_
  refine g_aload_n (pc := 169) 2 S dL_law_169 rfl ?_
  refine g_aload_n (pc := 170) 0 S dL_law_170 rfl ?_
  refine g_iload_n (pc := 171) 3 S dL_law_171 rfl ?_
  refine g_iconst (pc := 172) (v := (1 : Int32)) S dL_law_172 (by decide) ?_
  refine g_iadd (pc := 173) S dL_law_173 ?_
  refine g_sld (pc := 174) S hX hbl hbA dL_law_174 hi1 ?_
  refine g_callV (pc := 175) (As := [.int (xs (i + 1).toNatClampNeg)]) (rest := [.int r]) (r := some (.int r)) (h' := h2) S dL_law_175 kd_m rfl (lx_in_31 _ (List.mem_of_getElem? (i := 7) rfl)) (lx_in_31 _ (List.mem_of_getElem? (i := 8) rfl)) (lx_in_31 _ (List.mem_of_getElem? (i := 9) rfl)) mw_X10_type (m_X10_type kd_m (xs (i + 1).toNatClampNeg) h1 em) rfl rfl (Nat.le_of_ble_eq_true rfl) (Nat.le_of_ble_eq_true rfl) (Nat.le_of_ble_eq_true rfl) ?_
  exact g_icmp_eq (pc := 178) (tgt := 877) (A0 := some ()) (B0 := none) (X := ()) S dL_law_178 (by decide) (if_pos rfl) (fun _ => kk) (fun h9 => absurd h9 (by simp))
set_option maxHeartbeats 4000000 in
theorem lc_1 {K : gK} (S : Cx K RL cL_law 4 8 322) {b L : Nat} {xs : Nat → Int32} (hX : va_X b L xs K.2.1.1 K.2.1.1.heap) (hbl : b < K.2.1.1.heap.size) (hbA : ¬ K.2.2.2.1.2.2.2 b) {i : Int32}  {h : Hp} (r : Int32) (h1 : Hp) (h2 : Hp) (ex : s_X9_clear 0  h = some (r, h1)) (em : s_X10_clear 66  h1 = some (r, h2)) (kk : Go K 877 [(0, .ref b), (1, .ref (ad K 0)), (2, .ref (ad K 66)), (3, .int i)] [] h2) : Go K 183 [(0, .ref b), (1, .ref (ad K 0)), (2, .ref (ad K 66)), (3, .int i)] [] h := by
  refine g_aload_n (pc := 183) 1 S dL_law_183 rfl ?_
  refine g_callV (pc := 184) (As := []) (rest := []) (r := some (.int r)) (h' := h1) S dL_law_184 kd_x rfl (lx_in_10 _ (List.mem_of_getElem? (i := 31) rfl)) (lx_in_10 _ (List.mem_of_getElem? (i := 32) rfl)) (lx_in_10 _ (List.mem_of_getElem? (i := 33) rfl)) mw_X9_clear (m_X9_clear kd_x  h ex) rfl rfl (Nat.le_of_ble_eq_true rfl) (Nat.le_of_ble_eq_true rfl) (Nat.le_of_ble_eq_true rfl) ?_
  refine g_aload_n (pc := 187) 2 S dL_law_187 rfl ?_
  refine g_callV (pc := 188) (As := []) (rest := [.int r]) (r := some (.int r)) (h' := h2) S dL_law_188 kd_m rfl (lx_in_31 _ (List.mem_of_getElem? (i := 11) rfl)) (lx_in_31 _ (List.mem_of_getElem? (i := 12) rfl)) (lx_in_31 _ (List.mem_of_getElem? (i := 13) rfl)) mw_X10_clear (m_X10_clear kd_m  h1 em) rfl rfl (Nat.le_of_ble_eq_true rfl) (Nat.le_of_ble_eq_true rfl) (Nat.le_of_ble_eq_true rfl) ?_
  exact g_icmp_eq (pc := 191) (tgt := 877) (A0 := some ()) (B0 := none) (X := ()) S dL_law_191 (by decide) (if_pos rfl) (fun _ => kk) (fun h9 => absurd h9 (by simp))
set_option maxHeartbeats 4000000 in
theorem lc_2 {K : gK} (S : Cx K RL cL_law 4 8 322) {b L : Nat} {xs : Nat → Int32} (hX : va_X b L xs K.2.1.1 K.2.1.1.heap) (hbl : b < K.2.1.1.heap.size) (hbA : ¬ K.2.2.2.1.2.2.2 b) {i : Int32}  {h : Hp} (r : Int32) (h1 : Hp) (h2 : Hp) (ex : s_X9_tells 0  h = some (r, h1)) (em : s_X10_tells 66  h1 = some (r, h2)) (kk : Go K 877 [(0, .ref b), (1, .ref (ad K 0)), (2, .ref (ad K 66)), (3, .int i)] [] h2) : Go K 196 [(0, .ref b), (1, .ref (ad K 0)), (2, .ref (ad K 66)), (3, .int i)] [] h := by
  refine g_aload_n (pc := 196) 1 S dL_law_196 rfl ?_
  refine g_callV (pc := 197) (As := []) (rest := []) (r := some (.int r)) (h' := h1) S dL_law_197 kd_x rfl (lx_in_10 _ (List.mem_of_getElem? (i := 35) rfl)) (lx_in_10 _ (List.mem_of_getElem? (i := 36) rfl)) (lx_in_10 _ (List.mem_of_getElem? (i := 37) rfl)) mw_X9_tells (m_X9_tells kd_x  h ex) rfl rfl (Nat.le_of_ble_eq_true rfl) (Nat.le_of_ble_eq_true rfl) (Nat.le_of_ble_eq_true rfl) ?_
  refine g_aload_n (pc := 200) 2 S dL_law_200 rfl ?_
  refine g_callV (pc := 201) (As := []) (rest := [.int r]) (r := some (.int r)) (h' := h2) S dL_law_201 kd_m rfl (lx_in_31 _ (List.mem_of_getElem? (i := 15) rfl)) (lx_in_31 _ (List.mem_of_getElem? (i := 16) rfl)) (lx_in_31 _ (List.mem_of_getElem? (i := 17) rfl)) mw_X10_tells (m_X10_tells kd_m  h1 em) rfl rfl (Nat.le_of_ble_eq_true rfl) (Nat.le_of_ble_eq_true rfl) (Nat.le_of_ble_eq_true rfl) ?_
  exact g_icmp_eq (pc := 204) (tgt := 877) (A0 := some ()) (B0 := none) (X := ()) S dL_law_204 (by decide) (if_pos rfl) (fun _ => kk) (fun h9 => absurd h9 (by simp))
set_option maxHeartbeats 4000000 in
theorem lc_3 {K : gK} (S : Cx K RL cL_law 4 8 322) {b L : Nat} {xs : Nat → Int32} (hX : va_X b L xs K.2.1.1 K.2.1.1.heap) (hbl : b < K.2.1.1.heap.size) (hbA : ¬ K.2.2.2.1.2.2.2 b) {i : Int32} (hi1 : vp_in (i + 1) L) (hi2 : vp_in (i + 2) L) (hi3 : vp_in (i + 3) L) {h : Hp} (r : Int32) (h1 : Hp) (h2 : Hp) (ex : s_X9_form 0 (xs (i + 1).toNatClampNeg) (xs (i + 2).toNatClampNeg) (xs (i + 3).toNatClampNeg) h = some (r, h1)) (em : s_X10_form 66 (xs (i + 1).toNatClampNeg) (xs (i + 2).toNatClampNeg) (xs (i + 3).toNatClampNeg) h1 = some (r, h2)) (kk : Go K 877 [(0, .ref b), (1, .ref (ad K 0)), (2, .ref (ad K 66)), (3, .int i)] [] h2) : Go K 209 [(0, .ref b), (1, .ref (ad K 0)), (2, .ref (ad K 66)), (3, .int i)] [] h := by
  refine g_aload_n (pc := 209) 1 S dL_law_209 rfl ?_
  refine g_aload_n (pc := 210) 0 S dL_law_210 rfl ?_
  refine g_iload_n (pc := 211) 3 S dL_law_211 rfl ?_
  refine g_iconst (pc := 212) (v := (1 : Int32)) S dL_law_212 (by decide) ?_
  refine g_iadd (pc := 213) S dL_law_213 ?_
  refine g_sld (pc := 214) S hX hbl hbA dL_law_214 hi1 ?_
  refine g_aload_n (pc := 215) 0 S dL_law_215 rfl ?_
  refine g_iload_n (pc := 216) 3 S dL_law_216 rfl ?_
  refine g_iconst (pc := 217) (v := (2 : Int32)) S dL_law_217 (by decide) ?_
  refine g_iadd (pc := 218) S dL_law_218 ?_
  refine g_sld (pc := 219) S hX hbl hbA dL_law_219 hi2 ?_
  refine g_aload_n (pc := 220) 0 S dL_law_220 rfl ?_
  refine g_iload_n (pc := 221) 3 S dL_law_221 rfl ?_
  refine g_iconst (pc := 222) (v := (3 : Int32)) S dL_law_222 (by decide) ?_
  refine g_iadd (pc := 223) S dL_law_223 ?_
  refine g_sld (pc := 224) S hX hbl hbA dL_law_224 hi3 ?_
  refine g_callV (pc := 225) (As := [.int (xs (i + 1).toNatClampNeg), .int (xs (i + 2).toNatClampNeg), .int (xs (i + 3).toNatClampNeg)]) (rest := []) (r := some (.int r)) (h' := h1) S dL_law_225 kd_x rfl (lx_in_14 _ (List.mem_of_getElem? (i := 15) rfl)) (lx_in_14 _ (List.mem_of_getElem? (i := 16) rfl)) (lx_in_14 _ (List.mem_of_getElem? (i := 17) rfl)) mw_X9_form (m_X9_form kd_x (xs (i + 1).toNatClampNeg) (xs (i + 2).toNatClampNeg) (xs (i + 3).toNatClampNeg) h ex) rfl rfl (Nat.le_of_ble_eq_true rfl) (Nat.le_of_ble_eq_true rfl) (Nat.le_of_ble_eq_true rfl) ?_
  refine g_aload_n (pc := 228) 2 S dL_law_228 rfl ?_
  refine g_aload_n (pc := 229) 0 S dL_law_229 rfl ?_
  refine g_iload_n (pc := 230) 3 S dL_law_230 rfl ?_
  refine g_iconst (pc := 231) (v := (1 : Int32)) S dL_law_231 (by decide) ?_
  refine g_iadd (pc := 232) S dL_law_232 ?_
  refine g_sld (pc := 233) S hX hbl hbA dL_law_233 hi1 ?_
  refine g_aload_n (pc := 234) 0 S dL_law_234 rfl ?_
  refine g_iload_n (pc := 235) 3 S dL_law_235 rfl ?_
  refine g_iconst (pc := 236) (v := (2 : Int32)) S dL_law_236 (by decide) ?_
  refine g_iadd (pc := 237) S dL_law_237 ?_
  refine g_sld (pc := 238) S hX hbl hbA dL_law_238 hi2 ?_
  refine g_aload_n (pc := 239) 0 S dL_law_239 rfl ?_
  refine g_iload_n (pc := 240) 3 S dL_law_240 rfl ?_
  refine g_iconst (pc := 241) (v := (3 : Int32)) S dL_law_241 (by decide) ?_
  refine g_iadd (pc := 242) S dL_law_242 ?_
  refine g_sld (pc := 243) S hX hbl hbA dL_law_243 hi3 ?_
  refine g_callV (pc := 244) (As := [.int (xs (i + 1).toNatClampNeg), .int (xs (i + 2).toNatClampNeg), .int (xs (i + 3).toNatClampNeg)]) (rest := [.int r]) (r := some (.int r)) (h' := h2) S dL_law_244 kd_m rfl (lx_in_25 _ (List.mem_of_getElem? (i := 0) rfl)) (lx_in_25 _ (List.mem_of_getElem? (i := 1) rfl)) (lx_in_25 _ (List.mem_of_getElem? (i := 2) rfl)) mw_X10_form (m_X10_form kd_m (xs (i + 1).toNatClampNeg) (xs (i + 2).toNatClampNeg) (xs (i + 3).toNatClampNeg) h1 em) rfl rfl (Nat.le_of_ble_eq_true rfl) (Nat.le_of_ble_eq_true rfl) (Nat.le_of_ble_eq_true rfl) ?_
  exact g_icmp_eq (pc := 247) (tgt := 877) (A0 := some ()) (B0 := none) (X := ()) S dL_law_247 (by decide) (if_pos rfl) (fun _ => kk) (fun h9 => absurd h9 (by simp))
set_option maxHeartbeats 4000000 in
theorem lc_4 {K : gK} (S : Cx K RL cL_law 4 8 322) {b L : Nat} {xs : Nat → Int32} (hX : va_X b L xs K.2.1.1 K.2.1.1.heap) (hbl : b < K.2.1.1.heap.size) (hbA : ¬ K.2.2.2.1.2.2.2 b) {i : Int32} (hi1 : vp_in (i + 1) L) (hi2 : vp_in (i + 2) L) {h : Hp} (r : Int32)  (ex : s_X9_coefficient 0 (xs (i + 1).toNatClampNeg) (xs (i + 2).toNatClampNeg) h = some r) (em : s_X10_coefficient 66 (xs (i + 1).toNatClampNeg) (xs (i + 2).toNatClampNeg) h = some r) (kk : Go K 877 [(0, .ref b), (1, .ref (ad K 0)), (2, .ref (ad K 66)), (3, .int i)] [] h) : Go K 252 [(0, .ref b), (1, .ref (ad K 0)), (2, .ref (ad K 66)), (3, .int i)] [] h := by
  refine g_aload_n (pc := 252) 1 S dL_law_252 rfl ?_
  refine g_aload_n (pc := 253) 0 S dL_law_253 rfl ?_
  refine g_iload_n (pc := 254) 3 S dL_law_254 rfl ?_
  refine g_iconst (pc := 255) (v := (1 : Int32)) S dL_law_255 (by decide) ?_
  refine g_iadd (pc := 256) S dL_law_256 ?_
  refine g_sld (pc := 257) S hX hbl hbA dL_law_257 hi1 ?_
  refine g_aload_n (pc := 258) 0 S dL_law_258 rfl ?_
  refine g_iload_n (pc := 259) 3 S dL_law_259 rfl ?_
  refine g_iconst (pc := 260) (v := (2 : Int32)) S dL_law_260 (by decide) ?_
  refine g_iadd (pc := 261) S dL_law_261 ?_
  refine g_sld (pc := 262) S hX hbl hbA dL_law_262 hi2 ?_
  refine g_callV (pc := 263) (As := [.int (xs (i + 1).toNatClampNeg), .int (xs (i + 2).toNatClampNeg)]) (rest := []) (r := some (.int r)) (h' := h) S dL_law_263 kd_x rfl (lx_in_14 _ (List.mem_of_getElem? (i := 21) rfl)) (lx_in_14 _ (List.mem_of_getElem? (i := 22) rfl)) (lx_in_14 _ (List.mem_of_getElem? (i := 23) rfl)) mw_X9_coefficient (m_X9_coefficient kd_x (xs (i + 1).toNatClampNeg) (xs (i + 2).toNatClampNeg) h ex) rfl rfl (Nat.le_of_ble_eq_true rfl) (Nat.le_of_ble_eq_true rfl) (Nat.le_of_ble_eq_true rfl) ?_
  refine g_aload_n (pc := 266) 2 S dL_law_266 rfl ?_
  refine g_aload_n (pc := 267) 0 S dL_law_267 rfl ?_
  refine g_iload_n (pc := 268) 3 S dL_law_268 rfl ?_
  refine g_iconst (pc := 269) (v := (1 : Int32)) S dL_law_269 (by decide) ?_
  refine g_iadd (pc := 270) S dL_law_270 ?_
  refine g_sld (pc := 271) S hX hbl hbA dL_law_271 hi1 ?_
  refine g_aload_n (pc := 272) 0 S dL_law_272 rfl ?_
  refine g_iload_n (pc := 273) 3 S dL_law_273 rfl ?_
  refine g_iconst (pc := 274) (v := (2 : Int32)) S dL_law_274 (by decide) ?_
  refine g_iadd (pc := 275) S dL_law_275 ?_
  refine g_sld (pc := 276) S hX hbl hbA dL_law_276 hi2 ?_
  refine g_callV (pc := 277) (As := [.int (xs (i + 1).toNatClampNeg), .int (xs (i + 2).toNatClampNeg)]) (rest := [.int r]) (r := some (.int r)) (h' := h) S dL_law_277 kd_m rfl (lx_in_25 _ (List.mem_of_getElem? (i := 10) rfl)) (lx_in_25 _ (List.mem_of_getElem? (i := 11) rfl)) (lx_in_25 _ (List.mem_of_getElem? (i := 12) rfl)) mw_X10_coefficient (m_X10_coefficient kd_m (xs (i + 1).toNatClampNeg) (xs (i + 2).toNatClampNeg) h em) rfl rfl (Nat.le_of_ble_eq_true rfl) (Nat.le_of_ble_eq_true rfl) (Nat.le_of_ble_eq_true rfl) ?_
  exact g_icmp_eq (pc := 280) (tgt := 877) (A0 := some ()) (B0 := none) (X := ()) S dL_law_280 (by decide) (if_pos rfl) (fun _ => kk) (fun h9 => absurd h9 (by simp))
set_option maxHeartbeats 4000000 in
theorem lc_5 {K : gK} (S : Cx K RL cL_law 4 8 322) {b L : Nat} {xs : Nat → Int32} (hX : va_X b L xs K.2.1.1 K.2.1.1.heap) (hbl : b < K.2.1.1.heap.size) (hbA : ¬ K.2.2.2.1.2.2.2 b) {i : Int32} (hi1 : vp_in (i + 1) L) (hi2 : vp_in (i + 2) L) (hi3 : vp_in (i + 3) L) {h : Hp} (r : Int32) (h1 : Hp) (h2 : Hp) (ex : s_X9_asserts 0 (xs (i + 1).toNatClampNeg) (xs (i + 2).toNatClampNeg) (xs (i + 3).toNatClampNeg) h = some (r, h1)) (em : s_X10_asserts 66 (xs (i + 1).toNatClampNeg) (xs (i + 2).toNatClampNeg) (xs (i + 3).toNatClampNeg) h1 = some (r, h2)) (kk : Go K 877 [(0, .ref b), (1, .ref (ad K 0)), (2, .ref (ad K 66)), (3, .int i)] [] h2) : Go K 285 [(0, .ref b), (1, .ref (ad K 0)), (2, .ref (ad K 66)), (3, .int i)] [] h := by
  refine g_aload_n (pc := 285) 1 S dL_law_285 rfl ?_
  refine g_aload_n (pc := 286) 0 S dL_law_286 rfl ?_
  refine g_iload_n (pc := 287) 3 S dL_law_287 rfl ?_
  refine g_iconst (pc := 288) (v := (1 : Int32)) S dL_law_288 (by decide) ?_
  refine g_iadd (pc := 289) S dL_law_289 ?_
  refine g_sld (pc := 290) S hX hbl hbA dL_law_290 hi1 ?_
  refine g_aload_n (pc := 291) 0 S dL_law_291 rfl ?_
  refine g_iload_n (pc := 292) 3 S dL_law_292 rfl ?_
  refine g_iconst (pc := 293) (v := (2 : Int32)) S dL_law_293 (by decide) ?_
  refine g_iadd (pc := 294) S dL_law_294 ?_
  refine g_sld (pc := 295) S hX hbl hbA dL_law_295 hi2 ?_
  refine g_aload_n (pc := 296) 0 S dL_law_296 rfl ?_
  refine g_iload_n (pc := 297) 3 S dL_law_297 rfl ?_
  refine g_iconst (pc := 298) (v := (3 : Int32)) S dL_law_298 (by decide) ?_
  refine g_iadd (pc := 299) S dL_law_299 ?_
  refine g_sld (pc := 300) S hX hbl hbA dL_law_300 hi3 ?_
  refine g_callV (pc := 301) (As := [.int (xs (i + 1).toNatClampNeg), .int (xs (i + 2).toNatClampNeg), .int (xs (i + 3).toNatClampNeg)]) (rest := []) (r := some (.int r)) (h' := h1) S dL_law_301 kd_x rfl (lx_in_14 _ (List.mem_of_getElem? (i := 27) rfl)) (lx_in_14 _ (List.mem_of_getElem? (i := 28) rfl)) (lx_in_14 _ (List.mem_of_getElem? (i := 29) rfl)) mw_X9_asserts (m_X9_asserts kd_x (xs (i + 1).toNatClampNeg) (xs (i + 2).toNatClampNeg) (xs (i + 3).toNatClampNeg) h ex) rfl rfl (Nat.le_of_ble_eq_true rfl) (Nat.le_of_ble_eq_true rfl) (Nat.le_of_ble_eq_true rfl) ?_
  refine g_aload_n (pc := 304) 2 S dL_law_304 rfl ?_
  refine g_aload_n (pc := 305) 0 S dL_law_305 rfl ?_
  refine g_iload_n (pc := 306) 3 S dL_law_306 rfl ?_
  refine g_iconst (pc := 307) (v := (1 : Int32)) S dL_law_307 (by decide) ?_
  refine g_iadd (pc := 308) S dL_law_308 ?_
  refine g_sld (pc := 309) S hX hbl hbA dL_law_309 hi1 ?_
  refine g_aload_n (pc := 310) 0 S dL_law_310 rfl ?_
  refine g_iload_n (pc := 311) 3 S dL_law_311 rfl ?_
  refine g_iconst (pc := 312) (v := (2 : Int32)) S dL_law_312 (by decide) ?_
  refine g_iadd (pc := 313) S dL_law_313 ?_
  refine g_sld (pc := 314) S hX hbl hbA dL_law_314 hi2 ?_
  refine g_aload_n (pc := 315) 0 S dL_law_315 rfl ?_
  refine g_iload_n (pc := 316) 3 S dL_law_316 rfl ?_
  refine g_iconst (pc := 317) (v := (3 : Int32)) S dL_law_317 (by decide) ?_
  refine g_iadd (pc := 318) S dL_law_318 ?_
  refine g_sld (pc := 319) S hX hbl hbA dL_law_319 hi3 ?_
  refine g_callV (pc := 320) (As := [.int (xs (i + 1).toNatClampNeg), .int (xs (i + 2).toNatClampNeg), .int (xs (i + 3).toNatClampNeg)]) (rest := [.int r]) (r := some (.int r)) (h' := h2) S dL_law_320 kd_m rfl (lx_in_25 _ (List.mem_of_getElem? (i := 20) rfl)) (lx_in_25 _ (List.mem_of_getElem? (i := 21) rfl)) (lx_in_25 _ (List.mem_of_getElem? (i := 22) rfl)) mw_X10_asserts (m_X10_asserts kd_m (xs (i + 1).toNatClampNeg) (xs (i + 2).toNatClampNeg) (xs (i + 3).toNatClampNeg) h1 em) rfl rfl (Nat.le_of_ble_eq_true rfl) (Nat.le_of_ble_eq_true rfl) (Nat.le_of_ble_eq_true rfl) ?_
  exact g_icmp_eq (pc := 323) (tgt := 877) (A0 := some ()) (B0 := none) (X := ()) S dL_law_323 (by decide) (if_pos rfl) (fun _ => kk) (fun h9 => absurd h9 (by simp))
set_option maxHeartbeats 4000000 in
theorem lc_6 {K : gK} (S : Cx K RL cL_law 4 8 322) {b L : Nat} {xs : Nat → Int32} (hX : va_X b L xs K.2.1.1 K.2.1.1.heap) (hbl : b < K.2.1.1.heap.size) (hbA : ¬ K.2.2.2.1.2.2.2 b) {i : Int32} (hi1 : vp_in (i + 1) L) (hi2 : vp_in (i + 2) L) {h : Hp} (r : Int32)  (ex : s_X9_bound 0 (xs (i + 1).toNatClampNeg) (xs (i + 2).toNatClampNeg) h = some r) (em : s_X10_bound 66 (xs (i + 1).toNatClampNeg) (xs (i + 2).toNatClampNeg) h = some r) (kk : Go K 877 [(0, .ref b), (1, .ref (ad K 0)), (2, .ref (ad K 66)), (3, .int i)] [] h) : Go K 328 [(0, .ref b), (1, .ref (ad K 0)), (2, .ref (ad K 66)), (3, .int i)] [] h := by
  refine g_aload_n (pc := 328) 1 S dL_law_328 rfl ?_
  refine g_aload_n (pc := 329) 0 S dL_law_329 rfl ?_
  refine g_iload_n (pc := 330) 3 S dL_law_330 rfl ?_
  refine g_iconst (pc := 331) (v := (1 : Int32)) S dL_law_331 (by decide) ?_
  refine g_iadd (pc := 332) S dL_law_332 ?_
  refine g_sld (pc := 333) S hX hbl hbA dL_law_333 hi1 ?_
  refine g_aload_n (pc := 334) 0 S dL_law_334 rfl ?_
  refine g_iload_n (pc := 335) 3 S dL_law_335 rfl ?_
  refine g_iconst (pc := 336) (v := (2 : Int32)) S dL_law_336 (by decide) ?_
  refine g_iadd (pc := 337) S dL_law_337 ?_
  refine g_sld (pc := 338) S hX hbl hbA dL_law_338 hi2 ?_
  refine g_callV (pc := 339) (As := [.int (xs (i + 1).toNatClampNeg), .int (xs (i + 2).toNatClampNeg)]) (rest := []) (r := some (.int r)) (h' := h) S dL_law_339 kd_x rfl (lx_in_14 _ (List.mem_of_getElem? (i := 36) rfl)) (lx_in_14 _ (List.mem_of_getElem? (i := 37) rfl)) (lx_in_14 _ (List.mem_of_getElem? (i := 38) rfl)) mw_X9_bound (m_X9_bound kd_x (xs (i + 1).toNatClampNeg) (xs (i + 2).toNatClampNeg) h ex) rfl rfl (Nat.le_of_ble_eq_true rfl) (Nat.le_of_ble_eq_true rfl) (Nat.le_of_ble_eq_true rfl) ?_
  refine g_aload_n (pc := 342) 2 S dL_law_342 rfl ?_
  refine g_aload_n (pc := 343) 0 S dL_law_343 rfl ?_
  refine g_iload_n (pc := 344) 3 S dL_law_344 rfl ?_
  refine g_iconst (pc := 345) (v := (1 : Int32)) S dL_law_345 (by decide) ?_
  refine g_iadd (pc := 346) S dL_law_346 ?_
  refine g_sld (pc := 347) S hX hbl hbA dL_law_347 hi1 ?_
  refine g_aload_n (pc := 348) 0 S dL_law_348 rfl ?_
  refine g_iload_n (pc := 349) 3 S dL_law_349 rfl ?_
  refine g_iconst (pc := 350) (v := (2 : Int32)) S dL_law_350 (by decide) ?_
  refine g_iadd (pc := 351) S dL_law_351 ?_
  refine g_sld (pc := 352) S hX hbl hbA dL_law_352 hi2 ?_
  refine g_callV (pc := 353) (As := [.int (xs (i + 1).toNatClampNeg), .int (xs (i + 2).toNatClampNeg)]) (rest := [.int r]) (r := some (.int r)) (h' := h) S dL_law_353 kd_m rfl (lx_in_25 _ (List.mem_of_getElem? (i := 30) rfl)) (lx_in_25 _ (List.mem_of_getElem? (i := 31) rfl)) (lx_in_25 _ (List.mem_of_getElem? (i := 32) rfl)) mw_X10_bound (m_X10_bound kd_m (xs (i + 1).toNatClampNeg) (xs (i + 2).toNatClampNeg) h em) rfl rfl (Nat.le_of_ble_eq_true rfl) (Nat.le_of_ble_eq_true rfl) (Nat.le_of_ble_eq_true rfl) ?_
  exact g_icmp_eq (pc := 356) (tgt := 877) (A0 := some ()) (B0 := none) (X := ()) S dL_law_356 (by decide) (if_pos rfl) (fun _ => kk) (fun h9 => absurd h9 (by simp))
set_option maxHeartbeats 4000000 in
theorem lc_7 {K : gK} (S : Cx K RL cL_law 4 8 322) {b L : Nat} {xs : Nat → Int32} (hX : va_X b L xs K.2.1.1 K.2.1.1.heap) (hbl : b < K.2.1.1.heap.size) (hbA : ¬ K.2.2.2.1.2.2.2 b) {i : Int32}  {h : Hp} (r : Int32) (h1 : Hp) (h2 : Hp) (ex : s_X9_level 0  h = some (r, h1)) (em : s_X10_level 66  h1 = some (r, h2)) (kk : Go K 877 [(0, .ref b), (1, .ref (ad K 0)), (2, .ref (ad K 66)), (3, .int i)] [] h2) : Go K 361 [(0, .ref b), (1, .ref (ad K 0)), (2, .ref (ad K 66)), (3, .int i)] [] h := by
  refine g_aload_n (pc := 361) 1 S dL_law_361 rfl ?_
  refine g_callV (pc := 362) (As := []) (rest := []) (r := some (.int r)) (h' := h1) S dL_law_362 kd_x rfl (lx_in_15 _ (List.mem_of_getElem? (i := 4) rfl)) (lx_in_15 _ (List.mem_of_getElem? (i := 5) rfl)) (lx_in_15 _ (List.mem_of_getElem? (i := 6) rfl)) mw_X9_level (m_X9_level kd_x  h ex) rfl rfl (Nat.le_of_ble_eq_true rfl) (Nat.le_of_ble_eq_true rfl) (Nat.le_of_ble_eq_true rfl) ?_
  refine g_aload_n (pc := 365) 2 S dL_law_365 rfl ?_
  refine g_callV (pc := 366) (As := []) (rest := [.int r]) (r := some (.int r)) (h' := h2) S dL_law_366 kd_m rfl (lx_in_25 _ (List.mem_of_getElem? (i := 37) rfl)) (lx_in_25 _ (List.mem_of_getElem? (i := 38) rfl)) (lx_in_25 _ (List.mem_of_getElem? (i := 39) rfl)) mw_X10_level (m_X10_level kd_m  h1 em) rfl rfl (Nat.le_of_ble_eq_true rfl) (Nat.le_of_ble_eq_true rfl) (Nat.le_of_ble_eq_true rfl) ?_
  exact g_icmp_eq (pc := 369) (tgt := 877) (A0 := some ()) (B0 := none) (X := ()) S dL_law_369 (by decide) (if_pos rfl) (fun _ => kk) (fun h9 => absurd h9 (by simp))
set_option maxHeartbeats 4000000 in
theorem lc_8 {K : gK} (S : Cx K RL cL_law 4 8 322) {b L : Nat} {xs : Nat → Int32} (hX : va_X b L xs K.2.1.1 K.2.1.1.heap) (hbl : b < K.2.1.1.heap.size) (hbA : ¬ K.2.2.2.1.2.2.2 b) {i : Int32} (hi1 : vp_in (i + 1) L) {h : Hp} (r : Int32) (h1 : Hp) (h2 : Hp) (ex : s_X9_withdraws 0 (xs (i + 1).toNatClampNeg) h = some (r, h1)) (em : s_X10_withdraws 66 (xs (i + 1).toNatClampNeg) h1 = some (r, h2)) (kk : Go K 877 [(0, .ref b), (1, .ref (ad K 0)), (2, .ref (ad K 66)), (3, .int i)] [] h2) : Go K 374 [(0, .ref b), (1, .ref (ad K 0)), (2, .ref (ad K 66)), (3, .int i)] [] h := by
  refine g_aload_n (pc := 374) 1 S dL_law_374 rfl ?_
  refine g_aload_n (pc := 375) 0 S dL_law_375 rfl ?_
  refine g_iload_n (pc := 376) 3 S dL_law_376 rfl ?_
  refine g_iconst (pc := 377) (v := (1 : Int32)) S dL_law_377 (by decide) ?_
  refine g_iadd (pc := 378) S dL_law_378 ?_
  refine g_sld (pc := 379) S hX hbl hbA dL_law_379 hi1 ?_
  refine g_callV (pc := 380) (As := [.int (xs (i + 1).toNatClampNeg)]) (rest := []) (r := some (.int r)) (h' := h1) S dL_law_380 kd_x rfl (lx_in_15 _ (List.mem_of_getElem? (i := 8) rfl)) (lx_in_15 _ (List.mem_of_getElem? (i := 9) rfl)) (lx_in_15 _ (List.mem_of_getElem? (i := 10) rfl)) mw_X9_withdraws (m_X9_withdraws kd_x (xs (i + 1).toNatClampNeg) h ex) rfl rfl (Nat.le_of_ble_eq_true rfl) (Nat.le_of_ble_eq_true rfl) (Nat.le_of_ble_eq_true rfl) ?_
  refine g_aload_n (pc := 383) 2 S dL_law_383 rfl ?_
  refine g_aload_n (pc := 384) 0 S dL_law_384 rfl ?_
  refine g_iload_n (pc := 385) 3 S dL_law_385 rfl ?_
  refine g_iconst (pc := 386) (v := (1 : Int32)) S dL_law_386 (by decide) ?_
  refine g_iadd (pc := 387) S dL_law_387 ?_
  refine g_sld (pc := 388) S hX hbl hbA dL_law_388 hi1 ?_
  refine g_callV (pc := 389) (As := [.int (xs (i + 1).toNatClampNeg)]) (rest := [.int r]) (r := some (.int r)) (h' := h2) S dL_law_389 kd_m rfl (lx_in_26 _ (List.mem_of_getElem? (i := 1) rfl)) (lx_in_26 _ (List.mem_of_getElem? (i := 2) rfl)) (lx_in_26 _ (List.mem_of_getElem? (i := 3) rfl)) mw_X10_withdraws (m_X10_withdraws kd_m (xs (i + 1).toNatClampNeg) h1 em) rfl rfl (Nat.le_of_ble_eq_true rfl) (Nat.le_of_ble_eq_true rfl) (Nat.le_of_ble_eq_true rfl) ?_
  exact g_icmp_eq (pc := 392) (tgt := 877) (A0 := some ()) (B0 := none) (X := ()) S dL_law_392 (by decide) (if_pos rfl) (fun _ => kk) (fun h9 => absurd h9 (by simp))
set_option maxHeartbeats 4000000 in
theorem lc_9 {K : gK} (S : Cx K RL cL_law 4 8 322) {b L : Nat} {xs : Nat → Int32} (hX : va_X b L xs K.2.1.1 K.2.1.1.heap) (hbl : b < K.2.1.1.heap.size) (hbA : ¬ K.2.2.2.1.2.2.2 b) {i : Int32}  {h : Hp} (r : Int32) (h2 : Hp) (ex : s_X9_met 0  h = some r) (em : s_X10_met 66  h = some (r, h2)) (kk : Go K 877 [(0, .ref b), (1, .ref (ad K 0)), (2, .ref (ad K 66)), (3, .int i)] [] h2) : Go K 397 [(0, .ref b), (1, .ref (ad K 0)), (2, .ref (ad K 66)), (3, .int i)] [] h := by
  refine g_aload_n (pc := 397) 1 S dL_law_397 rfl ?_
  refine g_callV (pc := 398) (As := []) (rest := []) (r := some (.int r)) (h' := h) S dL_law_398 kd_x rfl (lx_in_15 _ (List.mem_of_getElem? (i := 16) rfl)) (lx_in_15 _ (List.mem_of_getElem? (i := 17) rfl)) (lx_in_15 _ (List.mem_of_getElem? (i := 18) rfl)) mw_X9_met (m_X9_met kd_x  h ex) rfl rfl (Nat.le_of_ble_eq_true rfl) (Nat.le_of_ble_eq_true rfl) (Nat.le_of_ble_eq_true rfl) ?_
  refine g_aload_n (pc := 401) 2 S dL_law_401 rfl ?_
  refine g_callV (pc := 402) (As := []) (rest := [.int r]) (r := some (.int r)) (h' := h2) S dL_law_402 kd_m rfl (lx_in_26 _ (List.mem_of_getElem? (i := 5) rfl)) (lx_in_26 _ (List.mem_of_getElem? (i := 6) rfl)) (lx_in_26 _ (List.mem_of_getElem? (i := 7) rfl)) mw_X10_met (m_X10_met kd_m  h em) rfl rfl (Nat.le_of_ble_eq_true rfl) (Nat.le_of_ble_eq_true rfl) (Nat.le_of_ble_eq_true rfl) ?_
  exact g_icmp_eq (pc := 405) (tgt := 877) (A0 := some ()) (B0 := none) (X := ()) S dL_law_405 (by decide) (if_pos rfl) (fun _ => kk) (fun h9 => absurd h9 (by simp))
set_option maxHeartbeats 4000000 in
theorem lc_10 {K : gK} (S : Cx K RL cL_law 4 8 322) {b L : Nat} {xs : Nat → Int32} (hX : va_X b L xs K.2.1.1 K.2.1.1.heap) (hbl : b < K.2.1.1.heap.size) (hbA : ¬ K.2.2.2.1.2.2.2 b) {i : Int32}  {h : Hp} (r : Int32) (h2 : Hp) (ex : s_X9_core 0  h = some r) (em : s_X10_core 66  h = some (r, h2)) (kk : Go K 877 [(0, .ref b), (1, .ref (ad K 0)), (2, .ref (ad K 66)), (3, .int i)] [] h2) : Go K 410 [(0, .ref b), (1, .ref (ad K 0)), (2, .ref (ad K 66)), (3, .int i)] [] h := by
  refine g_aload_n (pc := 410) 1 S dL_law_410 rfl ?_
  refine g_callV (pc := 411) (As := []) (rest := []) (r := some (.int r)) (h' := h) S dL_law_411 kd_x rfl (lx_in_15 _ (List.mem_of_getElem? (i := 34) rfl)) (lx_in_15 _ (List.mem_of_getElem? (i := 35) rfl)) (lx_in_15 _ (List.mem_of_getElem? (i := 36) rfl)) mw_X9_core (m_X9_core kd_x  h ex) rfl rfl (Nat.le_of_ble_eq_true rfl) (Nat.le_of_ble_eq_true rfl) (Nat.le_of_ble_eq_true rfl) ?_
  refine g_aload_n (pc := 414) 2 S dL_law_414 rfl ?_
  refine g_callV (pc := 415) (As := []) (rest := [.int r]) (r := some (.int r)) (h' := h2) S dL_law_415 kd_m rfl (lx_in_27 _ (List.mem_of_getElem? (i := 0) rfl)) (lx_in_27 _ (List.mem_of_getElem? (i := 1) rfl)) (lx_in_27 _ (List.mem_of_getElem? (i := 2) rfl)) mw_X10_core (m_X10_core kd_m  h em) rfl rfl (Nat.le_of_ble_eq_true rfl) (Nat.le_of_ble_eq_true rfl) (Nat.le_of_ble_eq_true rfl) ?_
  exact g_icmp_eq (pc := 418) (tgt := 877) (A0 := some ()) (B0 := none) (X := ()) S dL_law_418 (by decide) (if_pos rfl) (fun _ => kk) (fun h9 => absurd h9 (by simp))
set_option maxHeartbeats 4000000 in
theorem lc_11 {K : gK} (S : Cx K RL cL_law 4 8 322) {b L : Nat} {xs : Nat → Int32} (hX : va_X b L xs K.2.1.1 K.2.1.1.heap) (hbl : b < K.2.1.1.heap.size) (hbA : ¬ K.2.2.2.1.2.2.2 b) {i : Int32} (hi1 : vp_in (i + 1) L) {h : Hp} (r : Int32) (h1 : Hp) (h2 : Hp) (ex : s_X9_proof 0 (xs (i + 1).toNatClampNeg) h = some (r, h1)) (em : s_X10_proof 66 (xs (i + 1).toNatClampNeg) h1 = some (r, h2)) (kk : Go K 877 [(0, .ref b), (1, .ref (ad K 0)), (2, .ref (ad K 66)), (3, .int i)] [] h2) : Go K 423 [(0, .ref b), (1, .ref (ad K 0)), (2, .ref (ad K 66)), (3, .int i)] [] h := by
  refine g_aload_n (pc := 423) 1 S dL_law_423 rfl ?_
  refine g_aload_n (pc := 424) 0 S dL_law_424 rfl ?_
  refine g_iload_n (pc := 425) 3 S dL_law_425 rfl ?_
  refine g_iconst (pc := 426) (v := (1 : Int32)) S dL_law_426 (by decide) ?_
  refine g_iadd (pc := 427) S dL_law_427 ?_
  refine g_sld (pc := 428) S hX hbl hbA dL_law_428 hi1 ?_
  refine g_callV (pc := 429) (As := [.int (xs (i + 1).toNatClampNeg)]) (rest := []) (r := some (.int r)) (h' := h1) S dL_law_429 kd_x rfl (lx_in_16 _ (List.mem_of_getElem? (i := 1) rfl)) (lx_in_16 _ (List.mem_of_getElem? (i := 2) rfl)) (lx_in_16 _ (List.mem_of_getElem? (i := 3) rfl)) mw_X9_proof (m_X9_proof kd_x (xs (i + 1).toNatClampNeg) h ex) rfl rfl (Nat.le_of_ble_eq_true rfl) (Nat.le_of_ble_eq_true rfl) (Nat.le_of_ble_eq_true rfl) ?_
  refine g_aload_n (pc := 432) 2 S dL_law_432 rfl ?_
  refine g_aload_n (pc := 433) 0 S dL_law_433 rfl ?_
  refine g_iload_n (pc := 434) 3 S dL_law_434 rfl ?_
  refine g_iconst (pc := 435) (v := (1 : Int32)) S dL_law_435 (by decide) ?_
  refine g_iadd (pc := 436) S dL_law_436 ?_
  refine g_sld (pc := 437) S hX hbl hbA dL_law_437 hi1 ?_
  refine g_callV (pc := 438) (As := [.int (xs (i + 1).toNatClampNeg)]) (rest := [.int r]) (r := some (.int r)) (h' := h2) S dL_law_438 kd_m rfl (lx_in_27 _ (List.mem_of_getElem? (i := 7) rfl)) (lx_in_27 _ (List.mem_of_getElem? (i := 8) rfl)) (lx_in_27 _ (List.mem_of_getElem? (i := 9) rfl)) mw_X10_proof (m_X10_proof kd_m (xs (i + 1).toNatClampNeg) h1 em) rfl rfl (Nat.le_of_ble_eq_true rfl) (Nat.le_of_ble_eq_true rfl) (Nat.le_of_ble_eq_true rfl) ?_
  exact g_icmp_eq (pc := 441) (tgt := 877) (A0 := some ()) (B0 := none) (X := ()) S dL_law_441 (by decide) (if_pos rfl) (fun _ => kk) (fun h9 => absurd h9 (by simp))
set_option maxHeartbeats 4000000 in
theorem lc_12 {K : gK} (S : Cx K RL cL_law 4 8 322) {b L : Nat} {xs : Nat → Int32} (hX : va_X b L xs K.2.1.1 K.2.1.1.heap) (hbl : b < K.2.1.1.heap.size) (hbA : ¬ K.2.2.2.1.2.2.2 b) {i : Int32} (hi1 : vp_in (i + 1) L) {h : Hp} (r : Int32) (h1 : Hp) (h2 : Hp) (ex : s_X9_relief 0 (xs (i + 1).toNatClampNeg) h = some (r, h1)) (em : s_X10_relief 66 (xs (i + 1).toNatClampNeg) h1 = some (r, h2)) (kk : Go K 877 [(0, .ref b), (1, .ref (ad K 0)), (2, .ref (ad K 66)), (3, .int i)] [] h2) : Go K 446 [(0, .ref b), (1, .ref (ad K 0)), (2, .ref (ad K 66)), (3, .int i)] [] h := by
  refine g_aload_n (pc := 446) 1 S dL_law_446 rfl ?_
  refine g_aload_n (pc := 447) 0 S dL_law_447 rfl ?_
  refine g_iload_n (pc := 448) 3 S dL_law_448 rfl ?_
  refine g_iconst (pc := 449) (v := (1 : Int32)) S dL_law_449 (by decide) ?_
  refine g_iadd (pc := 450) S dL_law_450 ?_
  refine g_sld (pc := 451) S hX hbl hbA dL_law_451 hi1 ?_
  refine g_callV (pc := 452) (As := [.int (xs (i + 1).toNatClampNeg)]) (rest := []) (r := some (.int r)) (h' := h1) S dL_law_452 kd_x rfl (lx_in_16 _ (List.mem_of_getElem? (i := 19) rfl)) (lx_in_16 _ (List.mem_of_getElem? (i := 20) rfl)) (lx_in_16 _ (List.mem_of_getElem? (i := 21) rfl)) mw_X9_relief (m_X9_relief kd_x (xs (i + 1).toNatClampNeg) h ex) rfl rfl (Nat.le_of_ble_eq_true rfl) (Nat.le_of_ble_eq_true rfl) (Nat.le_of_ble_eq_true rfl) ?_
  refine g_aload_n (pc := 455) 2 S dL_law_455 rfl ?_
  refine g_aload_n (pc := 456) 0 S dL_law_456 rfl ?_
  refine g_iload_n (pc := 457) 3 S dL_law_457 rfl ?_
  refine g_iconst (pc := 458) (v := (1 : Int32)) S dL_law_458 (by decide) ?_
  refine g_iadd (pc := 459) S dL_law_459 ?_
  refine g_sld (pc := 460) S hX hbl hbA dL_law_460 hi1 ?_
  refine g_callV (pc := 461) (As := [.int (xs (i + 1).toNatClampNeg)]) (rest := [.int r]) (r := some (.int r)) (h' := h2) S dL_law_461 kd_m rfl (lx_in_27 _ (List.mem_of_getElem? (i := 32) rfl)) (lx_in_27 _ (List.mem_of_getElem? (i := 33) rfl)) (lx_in_27 _ (List.mem_of_getElem? (i := 34) rfl)) mw_X10_relief (m_X10_relief kd_m (xs (i + 1).toNatClampNeg) h1 em) rfl rfl (Nat.le_of_ble_eq_true rfl) (Nat.le_of_ble_eq_true rfl) (Nat.le_of_ble_eq_true rfl) ?_
  exact g_icmp_eq (pc := 464) (tgt := 877) (A0 := some ()) (B0 := none) (X := ()) S dL_law_464 (by decide) (if_pos rfl) (fun _ => kk) (fun h9 => absurd h9 (by simp))
set_option maxHeartbeats 4000000 in
theorem lc_13 {K : gK} (S : Cx K RL cL_law 4 8 322) {b L : Nat} {xs : Nat → Int32} (hX : va_X b L xs K.2.1.1 K.2.1.1.heap) (hbl : b < K.2.1.1.heap.size) (hbA : ¬ K.2.2.2.1.2.2.2 b) {i : Int32} (hi1 : vp_in (i + 1) L) {h : Hp} (r : Int32) (h2 : Hp) (ex : s_X9_spared 0 (xs (i + 1).toNatClampNeg) h = some r) (em : s_X10_spared 66 (xs (i + 1).toNatClampNeg) h = some (r, h2)) (kk : Go K 877 [(0, .ref b), (1, .ref (ad K 0)), (2, .ref (ad K 66)), (3, .int i)] [] h2) : Go K 469 [(0, .ref b), (1, .ref (ad K 0)), (2, .ref (ad K 66)), (3, .int i)] [] h := by
  refine g_aload_n (pc := 469) 1 S dL_law_469 rfl ?_
  refine g_aload_n (pc := 470) 0 S dL_law_470 rfl ?_
  refine g_iload_n (pc := 471) 3 S dL_law_471 rfl ?_
  refine g_iconst (pc := 472) (v := (1 : Int32)) S dL_law_472 (by decide) ?_
  refine g_iadd (pc := 473) S dL_law_473 ?_
  refine g_sld (pc := 474) S hX hbl hbA dL_law_474 hi1 ?_
  refine g_callV (pc := 475) (As := [.int (xs (i + 1).toNatClampNeg)]) (rest := []) (r := some (.int r)) (h' := h) S dL_law_475 kd_x rfl (lx_in_17 _ (List.mem_of_getElem? (i := 0) rfl)) (lx_in_17 _ (List.mem_of_getElem? (i := 1) rfl)) (lx_in_17 _ (List.mem_of_getElem? (i := 2) rfl)) mw_X9_spared (m_X9_spared kd_x (xs (i + 1).toNatClampNeg) h ex) rfl rfl (Nat.le_of_ble_eq_true rfl) (Nat.le_of_ble_eq_true rfl) (Nat.le_of_ble_eq_true rfl) ?_
  refine g_aload_n (pc := 478) 2 S dL_law_478 rfl ?_
  refine g_aload_n (pc := 479) 0 S dL_law_479 rfl ?_
  refine g_iload_n (pc := 480) 3 S dL_law_480 rfl ?_
  refine g_iconst (pc := 481) (v := (1 : Int32)) S dL_law_481 (by decide) ?_
  refine g_iadd (pc := 482) S dL_law_482 ?_
  refine g_sld (pc := 483) S hX hbl hbA dL_law_483 hi1 ?_
  refine g_callV (pc := 484) (As := [.int (xs (i + 1).toNatClampNeg)]) (rest := [.int r]) (r := some (.int r)) (h' := h2) S dL_law_484 kd_m rfl (lx_in_28 _ (List.mem_of_getElem? (i := 11) rfl)) (lx_in_28 _ (List.mem_of_getElem? (i := 12) rfl)) (lx_in_28 _ (List.mem_of_getElem? (i := 13) rfl)) mw_X10_spared (m_X10_spared kd_m (xs (i + 1).toNatClampNeg) h em) rfl rfl (Nat.le_of_ble_eq_true rfl) (Nat.le_of_ble_eq_true rfl) (Nat.le_of_ble_eq_true rfl) ?_
  exact g_icmp_eq (pc := 487) (tgt := 877) (A0 := some ()) (B0 := none) (X := ()) S dL_law_487 (by decide) (if_pos rfl) (fun _ => kk) (fun h9 => absurd h9 (by simp))
set_option maxHeartbeats 4000000 in
theorem lc_14 {K : gK} (S : Cx K RL cL_law 4 8 322) {b L : Nat} {xs : Nat → Int32} (hX : va_X b L xs K.2.1.1 K.2.1.1.heap) (hbl : b < K.2.1.1.heap.size) (hbA : ¬ K.2.2.2.1.2.2.2 b) {i : Int32} (hi1 : vp_in (i + 1) L) (hi2 : vp_in (i + 2) L) {h : Hp} (r : Int32) (h1 : Hp) (h2 : Hp) (ex : s_X9_range 0 (xs (i + 1).toNatClampNeg) (xs (i + 2).toNatClampNeg) h = some (r, h1)) (em : s_X10_range 66 (xs (i + 1).toNatClampNeg) (xs (i + 2).toNatClampNeg) h1 = some (r, h2)) (kk : Go K 877 [(0, .ref b), (1, .ref (ad K 0)), (2, .ref (ad K 66)), (3, .int i)] [] h2) : Go K 492 [(0, .ref b), (1, .ref (ad K 0)), (2, .ref (ad K 66)), (3, .int i)] [] h := by
  refine g_aload_n (pc := 492) 1 S dL_law_492 rfl ?_
  refine g_aload_n (pc := 493) 0 S dL_law_493 rfl ?_
  refine g_iload_n (pc := 494) 3 S dL_law_494 rfl ?_
  refine g_iconst (pc := 495) (v := (1 : Int32)) S dL_law_495 (by decide) ?_
  refine g_iadd (pc := 496) S dL_law_496 ?_
  refine g_sld (pc := 497) S hX hbl hbA dL_law_497 hi1 ?_
  refine g_aload_n (pc := 498) 0 S dL_law_498 rfl ?_
  refine g_iload_n (pc := 499) 3 S dL_law_499 rfl ?_
  refine g_iconst (pc := 500) (v := (2 : Int32)) S dL_law_500 (by decide) ?_
  refine g_iadd (pc := 501) S dL_law_501 ?_
  refine g_sld (pc := 502) S hX hbl hbA dL_law_502 hi2 ?_
  refine g_callV (pc := 503) (As := [.int (xs (i + 1).toNatClampNeg), .int (xs (i + 2).toNatClampNeg)]) (rest := []) (r := some (.int r)) (h' := h1) S dL_law_503 kd_x rfl (lx_in_17 _ (List.mem_of_getElem? (i := 5) rfl)) (lx_in_17 _ (List.mem_of_getElem? (i := 6) rfl)) (lx_in_17 _ (List.mem_of_getElem? (i := 7) rfl)) mw_X9_range (m_X9_range kd_x (xs (i + 1).toNatClampNeg) (xs (i + 2).toNatClampNeg) h ex) rfl rfl (Nat.le_of_ble_eq_true rfl) (Nat.le_of_ble_eq_true rfl) (Nat.le_of_ble_eq_true rfl) ?_
  refine g_aload_n (pc := 506) 2 S dL_law_506 rfl ?_
  refine g_aload_n (pc := 507) 0 S dL_law_507 rfl ?_
  refine g_iload_n (pc := 508) 3 S dL_law_508 rfl ?_
  refine g_iconst (pc := 509) (v := (1 : Int32)) S dL_law_509 (by decide) ?_
  refine g_iadd (pc := 510) S dL_law_510 ?_
  refine g_sld (pc := 511) S hX hbl hbA dL_law_511 hi1 ?_
  refine g_aload_n (pc := 512) 0 S dL_law_512 rfl ?_
  refine g_iload_n (pc := 513) 3 S dL_law_513 rfl ?_
  refine g_iconst (pc := 514) (v := (2 : Int32)) S dL_law_514 (by decide) ?_
  refine g_iadd (pc := 515) S dL_law_515 ?_
  refine g_sld (pc := 516) S hX hbl hbA dL_law_516 hi2 ?_
  refine g_callV (pc := 517) (As := [.int (xs (i + 1).toNatClampNeg), .int (xs (i + 2).toNatClampNeg)]) (rest := [.int r]) (r := some (.int r)) (h' := h2) S dL_law_517 kd_m rfl (lx_in_28 _ (List.mem_of_getElem? (i := 21) rfl)) (lx_in_28 _ (List.mem_of_getElem? (i := 22) rfl)) (lx_in_28 _ (List.mem_of_getElem? (i := 23) rfl)) mw_X10_range (m_X10_range kd_m (xs (i + 1).toNatClampNeg) (xs (i + 2).toNatClampNeg) h1 em) rfl rfl (Nat.le_of_ble_eq_true rfl) (Nat.le_of_ble_eq_true rfl) (Nat.le_of_ble_eq_true rfl) ?_
  exact g_icmp_eq (pc := 520) (tgt := 877) (A0 := some ()) (B0 := none) (X := ()) S dL_law_520 (by decide) (if_pos rfl) (fun _ => kk) (fun h9 => absurd h9 (by simp))
set_option maxHeartbeats 4000000 in
theorem lc_15 {K : gK} (S : Cx K RL cL_law 4 8 322) {b L : Nat} {xs : Nat → Int32} (hX : va_X b L xs K.2.1.1 K.2.1.1.heap) (hbl : b < K.2.1.1.heap.size) (hbA : ¬ K.2.2.2.1.2.2.2 b) {i : Int32} (hi1 : vp_in (i + 1) L) (hi2 : vp_in (i + 2) L) (hi3 : vp_in (i + 3) L) {h : Hp} (r : Int32) (h1 : Hp) (h2 : Hp) (ex : s_X9_follows 0 (xs (i + 1).toNatClampNeg) (xs (i + 2).toNatClampNeg) (xs (i + 3).toNatClampNeg) h = some (r, h1)) (em : s_X10_follows 66 (xs (i + 1).toNatClampNeg) (xs (i + 2).toNatClampNeg) (xs (i + 3).toNatClampNeg) h1 = some (r, h2)) (kk : Go K 877 [(0, .ref b), (1, .ref (ad K 0)), (2, .ref (ad K 66)), (3, .int i)] [] h2) : Go K 525 [(0, .ref b), (1, .ref (ad K 0)), (2, .ref (ad K 66)), (3, .int i)] [] h := by
  refine g_aload_n (pc := 525) 1 S dL_law_525 rfl ?_
  refine g_aload_n (pc := 526) 0 S dL_law_526 rfl ?_
  refine g_iload_n (pc := 527) 3 S dL_law_527 rfl ?_
  refine g_iconst (pc := 528) (v := (1 : Int32)) S dL_law_528 (by decide) ?_
  refine g_iadd (pc := 529) S dL_law_529 ?_
  refine g_sld (pc := 530) S hX hbl hbA dL_law_530 hi1 ?_
  refine g_aload_n (pc := 531) 0 S dL_law_531 rfl ?_
  refine g_iload_n (pc := 532) 3 S dL_law_532 rfl ?_
  refine g_iconst (pc := 533) (v := (2 : Int32)) S dL_law_533 (by decide) ?_
  refine g_iadd (pc := 534) S dL_law_534 ?_
  refine g_sld (pc := 535) S hX hbl hbA dL_law_535 hi2 ?_
  refine g_aload_n (pc := 536) 0 S dL_law_536 rfl ?_
  refine g_iload_n (pc := 537) 3 S dL_law_537 rfl ?_
  refine g_iconst (pc := 538) (v := (3 : Int32)) S dL_law_538 (by decide) ?_
  refine g_iadd (pc := 539) S dL_law_539 ?_
  refine g_sld (pc := 540) S hX hbl hbA dL_law_540 hi3 ?_
  refine g_callV (pc := 541) (As := [.int (xs (i + 1).toNatClampNeg), .int (xs (i + 2).toNatClampNeg), .int (xs (i + 3).toNatClampNeg)]) (rest := []) (r := some (.int r)) (h' := h1) S dL_law_541 kd_x rfl (lx_in_17 _ (List.mem_of_getElem? (i := 20) rfl)) (lx_in_17 _ (List.mem_of_getElem? (i := 21) rfl)) (lx_in_17 _ (List.mem_of_getElem? (i := 22) rfl)) mw_X9_follows (m_X9_follows kd_x (xs (i + 1).toNatClampNeg) (xs (i + 2).toNatClampNeg) (xs (i + 3).toNatClampNeg) h ex) rfl rfl (Nat.le_of_ble_eq_true rfl) (Nat.le_of_ble_eq_true rfl) (Nat.le_of_ble_eq_true rfl) ?_
  refine g_aload_n (pc := 544) 2 S dL_law_544 rfl ?_
  refine g_aload_n (pc := 545) 0 S dL_law_545 rfl ?_
  refine g_iload_n (pc := 546) 3 S dL_law_546 rfl ?_
  refine g_iconst (pc := 547) (v := (1 : Int32)) S dL_law_547 (by decide) ?_
  refine g_iadd (pc := 548) S dL_law_548 ?_
  refine g_sld (pc := 549) S hX hbl hbA dL_law_549 hi1 ?_
  refine g_aload_n (pc := 550) 0 S dL_law_550 rfl ?_
  refine g_iload_n (pc := 551) 3 S dL_law_551 rfl ?_
  refine g_iconst (pc := 552) (v := (2 : Int32)) S dL_law_552 (by decide) ?_
  refine g_iadd (pc := 553) S dL_law_553 ?_
  refine g_sld (pc := 554) S hX hbl hbA dL_law_554 hi2 ?_
  refine g_aload_n (pc := 555) 0 S dL_law_555 rfl ?_
  refine g_iload_n (pc := 556) 3 S dL_law_556 rfl ?_
  refine g_iconst (pc := 557) (v := (3 : Int32)) S dL_law_557 (by decide) ?_
  refine g_iadd (pc := 558) S dL_law_558 ?_
  refine g_sld (pc := 559) S hX hbl hbA dL_law_559 hi3 ?_
  refine g_callV (pc := 560) (As := [.int (xs (i + 1).toNatClampNeg), .int (xs (i + 2).toNatClampNeg), .int (xs (i + 3).toNatClampNeg)]) (rest := [.int r]) (r := some (.int r)) (h' := h2) S dL_law_560 kd_m rfl (lx_in_28 _ (List.mem_of_getElem? (i := 25) rfl)) (lx_in_28 _ (List.mem_of_getElem? (i := 26) rfl)) (lx_in_28 _ (List.mem_of_getElem? (i := 27) rfl)) mw_X10_follows (m_X10_follows kd_m (xs (i + 1).toNatClampNeg) (xs (i + 2).toNatClampNeg) (xs (i + 3).toNatClampNeg) h1 em) rfl rfl (Nat.le_of_ble_eq_true rfl) (Nat.le_of_ble_eq_true rfl) (Nat.le_of_ble_eq_true rfl) ?_
  exact g_icmp_eq (pc := 563) (tgt := 877) (A0 := some ()) (B0 := none) (X := ()) S dL_law_563 (by decide) (if_pos rfl) (fun _ => kk) (fun h9 => absurd h9 (by simp))
set_option maxHeartbeats 4000000 in
theorem lc_16 {K : gK} (S : Cx K RL cL_law 4 8 322) {b L : Nat} {xs : Nat → Int32} (hX : va_X b L xs K.2.1.1 K.2.1.1.heap) (hbl : b < K.2.1.1.heap.size) (hbA : ¬ K.2.2.2.1.2.2.2 b) {i : Int32} (hi1 : vp_in (i + 1) L) (hi2 : vp_in (i + 2) L) (hi3 : vp_in (i + 3) L) {h : Hp} (r : Int32) (h1 : Hp) (h2 : Hp) (ex : s_X9_since 0 (xs (i + 1).toNatClampNeg) (xs (i + 2).toNatClampNeg) (xs (i + 3).toNatClampNeg) h = some (r, h1)) (em : s_X10_since 66 (xs (i + 1).toNatClampNeg) (xs (i + 2).toNatClampNeg) (xs (i + 3).toNatClampNeg) h1 = some (r, h2)) (kk : Go K 877 [(0, .ref b), (1, .ref (ad K 0)), (2, .ref (ad K 66)), (3, .int i)] [] h2) : Go K 568 [(0, .ref b), (1, .ref (ad K 0)), (2, .ref (ad K 66)), (3, .int i)] [] h := by
  refine g_aload_n (pc := 568) 1 S dL_law_568 rfl ?_
  refine g_aload_n (pc := 569) 0 S dL_law_569 rfl ?_
  refine g_iload_n (pc := 570) 3 S dL_law_570 rfl ?_
  refine g_iconst (pc := 571) (v := (1 : Int32)) S dL_law_571 (by decide) ?_
  refine g_iadd (pc := 572) S dL_law_572 ?_
  refine g_sld (pc := 573) S hX hbl hbA dL_law_573 hi1 ?_
  refine g_aload_n (pc := 574) 0 S dL_law_574 rfl ?_
  refine g_iload_n (pc := 575) 3 S dL_law_575 rfl ?_
  refine g_iconst (pc := 576) (v := (2 : Int32)) S dL_law_576 (by decide) ?_
  refine g_iadd (pc := 577) S dL_law_577 ?_
  refine g_sld (pc := 578) S hX hbl hbA dL_law_578 hi2 ?_
  refine g_aload_n (pc := 579) 0 S dL_law_579 rfl ?_
  refine g_iload_n (pc := 580) 3 S dL_law_580 rfl ?_
  refine g_iconst (pc := 581) (v := (3 : Int32)) S dL_law_581 (by decide) ?_
  refine g_iadd (pc := 582) S dL_law_582 ?_
  refine g_sld (pc := 583) S hX hbl hbA dL_law_583 hi3 ?_
  refine g_callV (pc := 584) (As := [.int (xs (i + 1).toNatClampNeg), .int (xs (i + 2).toNatClampNeg), .int (xs (i + 3).toNatClampNeg)]) (rest := []) (r := some (.int r)) (h' := h1) S dL_law_584 kd_x rfl (lx_in_17 _ (List.mem_of_getElem? (i := 30) rfl)) (lx_in_17 _ (List.mem_of_getElem? (i := 31) rfl)) (lx_in_17 _ (List.mem_of_getElem? (i := 32) rfl)) mw_X9_since (m_X9_since kd_x (xs (i + 1).toNatClampNeg) (xs (i + 2).toNatClampNeg) (xs (i + 3).toNatClampNeg) h ex) rfl rfl (Nat.le_of_ble_eq_true rfl) (Nat.le_of_ble_eq_true rfl) (Nat.le_of_ble_eq_true rfl) ?_
  refine g_aload_n (pc := 587) 2 S dL_law_587 rfl ?_
  refine g_aload_n (pc := 588) 0 S dL_law_588 rfl ?_
  refine g_iload_n (pc := 589) 3 S dL_law_589 rfl ?_
  refine g_iconst (pc := 590) (v := (1 : Int32)) S dL_law_590 (by decide) ?_
  refine g_iadd (pc := 591) S dL_law_591 ?_
  refine g_sld (pc := 592) S hX hbl hbA dL_law_592 hi1 ?_
  refine g_aload_n (pc := 593) 0 S dL_law_593 rfl ?_
  refine g_iload_n (pc := 594) 3 S dL_law_594 rfl ?_
  refine g_iconst (pc := 595) (v := (2 : Int32)) S dL_law_595 (by decide) ?_
  refine g_iadd (pc := 596) S dL_law_596 ?_
  refine g_sld (pc := 597) S hX hbl hbA dL_law_597 hi2 ?_
  refine g_aload_n (pc := 598) 0 S dL_law_598 rfl ?_
  refine g_iload_n (pc := 599) 3 S dL_law_599 rfl ?_
  refine g_iconst (pc := 600) (v := (3 : Int32)) S dL_law_600 (by decide) ?_
  refine g_iadd (pc := 601) S dL_law_601 ?_
  refine g_sld (pc := 602) S hX hbl hbA dL_law_602 hi3 ?_
  refine g_callV (pc := 603) (As := [.int (xs (i + 1).toNatClampNeg), .int (xs (i + 2).toNatClampNeg), .int (xs (i + 3).toNatClampNeg)]) (rest := [.int r]) (r := some (.int r)) (h' := h2) S dL_law_603 kd_m rfl (lx_in_28 _ (List.mem_of_getElem? (i := 38) rfl)) (lx_in_28 _ (List.mem_of_getElem? (i := 39) rfl)) (lx_in_29 _ (List.mem_of_getElem? (i := 0) rfl)) mw_X10_since (m_X10_since kd_m (xs (i + 1).toNatClampNeg) (xs (i + 2).toNatClampNeg) (xs (i + 3).toNatClampNeg) h1 em) rfl rfl (Nat.le_of_ble_eq_true rfl) (Nat.le_of_ble_eq_true rfl) (Nat.le_of_ble_eq_true rfl) ?_
  exact g_icmp_eq (pc := 606) (tgt := 877) (A0 := some ()) (B0 := none) (X := ()) S dL_law_606 (by decide) (if_pos rfl) (fun _ => kk) (fun h9 => absurd h9 (by simp))
set_option maxHeartbeats 4000000 in
theorem lc_17 {K : gK} (S : Cx K RL cL_law 4 8 322) {b L : Nat} {xs : Nat → Int32} (hX : va_X b L xs K.2.1.1 K.2.1.1.heap) (hbl : b < K.2.1.1.heap.size) (hbA : ¬ K.2.2.2.1.2.2.2 b) {i : Int32} (hi1 : vp_in (i + 1) L) (hi2 : vp_in (i + 2) L) (hi3 : vp_in (i + 3) L) {h : Hp} (r : Int32) (h1 : Hp) (h2 : Hp) (ex : s_X9_why 0 (xs (i + 1).toNatClampNeg) (xs (i + 2).toNatClampNeg) (xs (i + 3).toNatClampNeg) h = some (r, h1)) (em : s_X10_why 66 (xs (i + 1).toNatClampNeg) (xs (i + 2).toNatClampNeg) (xs (i + 3).toNatClampNeg) h1 = some (r, h2)) (kk : Go K 877 [(0, .ref b), (1, .ref (ad K 0)), (2, .ref (ad K 66)), (3, .int i)] [] h2) : Go K 611 [(0, .ref b), (1, .ref (ad K 0)), (2, .ref (ad K 66)), (3, .int i)] [] h := by
  refine g_aload_n (pc := 611) 1 S dL_law_611 rfl ?_
  refine g_aload_n (pc := 612) 0 S dL_law_612 rfl ?_
  refine g_iload_n (pc := 613) 3 S dL_law_613 rfl ?_
  refine g_iconst (pc := 614) (v := (1 : Int32)) S dL_law_614 (by decide) ?_
  refine g_iadd (pc := 615) S dL_law_615 ?_
  refine g_sld (pc := 616) S hX hbl hbA dL_law_616 hi1 ?_
  refine g_aload_n (pc := 617) 0 S dL_law_617 rfl ?_
  refine g_iload_n (pc := 618) 3 S dL_law_618 rfl ?_
  refine g_iconst (pc := 619) (v := (2 : Int32)) S dL_law_619 (by decide) ?_
  refine g_iadd (pc := 620) S dL_law_620 ?_
  refine g_sld (pc := 621) S hX hbl hbA dL_law_621 hi2 ?_
  refine g_aload_n (pc := 622) 0 S dL_law_622 rfl ?_
  refine g_iload_n (pc := 623) 3 S dL_law_623 rfl ?_
  refine g_iconst (pc := 624) (v := (3 : Int32)) S dL_law_624 (by decide) ?_
  refine g_iadd (pc := 625) S dL_law_625 ?_
  refine g_sld (pc := 626) S hX hbl hbA dL_law_626 hi3 ?_
  refine g_callV (pc := 627) (As := [.int (xs (i + 1).toNatClampNeg), .int (xs (i + 2).toNatClampNeg), .int (xs (i + 3).toNatClampNeg)]) (rest := []) (r := some (.int r)) (h' := h1) S dL_law_627 kd_x rfl (lx_in_17 _ (List.mem_of_getElem? (i := 34) rfl)) (lx_in_17 _ (List.mem_of_getElem? (i := 35) rfl)) (lx_in_17 _ (List.mem_of_getElem? (i := 36) rfl)) mw_X9_why (m_X9_why kd_x (xs (i + 1).toNatClampNeg) (xs (i + 2).toNatClampNeg) (xs (i + 3).toNatClampNeg) h ex) rfl rfl (Nat.le_of_ble_eq_true rfl) (Nat.le_of_ble_eq_true rfl) (Nat.le_of_ble_eq_true rfl) ?_
  refine g_aload_n (pc := 630) 2 S dL_law_630 rfl ?_
  refine g_aload_n (pc := 631) 0 S dL_law_631 rfl ?_
  refine g_iload_n (pc := 632) 3 S dL_law_632 rfl ?_
  refine g_iconst (pc := 633) (v := (1 : Int32)) S dL_law_633 (by decide) ?_
  refine g_iadd (pc := 634) S dL_law_634 ?_
  refine g_sld (pc := 635) S hX hbl hbA dL_law_635 hi1 ?_
  refine g_aload_n (pc := 636) 0 S dL_law_636 rfl ?_
  refine g_iload_n (pc := 637) 3 S dL_law_637 rfl ?_
  refine g_iconst (pc := 638) (v := (2 : Int32)) S dL_law_638 (by decide) ?_
  refine g_iadd (pc := 639) S dL_law_639 ?_
  refine g_sld (pc := 640) S hX hbl hbA dL_law_640 hi2 ?_
  refine g_aload_n (pc := 641) 0 S dL_law_641 rfl ?_
  refine g_iload_n (pc := 642) 3 S dL_law_642 rfl ?_
  refine g_iconst (pc := 643) (v := (3 : Int32)) S dL_law_643 (by decide) ?_
  refine g_iadd (pc := 644) S dL_law_644 ?_
  refine g_sld (pc := 645) S hX hbl hbA dL_law_645 hi3 ?_
  refine g_callV (pc := 646) (As := [.int (xs (i + 1).toNatClampNeg), .int (xs (i + 2).toNatClampNeg), .int (xs (i + 3).toNatClampNeg)]) (rest := [.int r]) (r := some (.int r)) (h' := h2) S dL_law_646 kd_m rfl (lx_in_29 _ (List.mem_of_getElem? (i := 2) rfl)) (lx_in_29 _ (List.mem_of_getElem? (i := 3) rfl)) (lx_in_29 _ (List.mem_of_getElem? (i := 4) rfl)) mw_X10_why (m_X10_why kd_m (xs (i + 1).toNatClampNeg) (xs (i + 2).toNatClampNeg) (xs (i + 3).toNatClampNeg) h1 em) rfl rfl (Nat.le_of_ble_eq_true rfl) (Nat.le_of_ble_eq_true rfl) (Nat.le_of_ble_eq_true rfl) ?_
  exact g_icmp_eq (pc := 649) (tgt := 877) (A0 := some ()) (B0 := none) (X := ()) S dL_law_649 (by decide) (if_pos rfl) (fun _ => kk) (fun h9 => absurd h9 (by simp))
set_option maxHeartbeats 4000000 in
theorem lc_18 {K : gK} (S : Cx K RL cL_law 4 8 322) {b L : Nat} {xs : Nat → Int32} (hX : va_X b L xs K.2.1.1 K.2.1.1.heap) (hbl : b < K.2.1.1.heap.size) (hbA : ¬ K.2.2.2.1.2.2.2 b) {i : Int32} (hi1 : vp_in (i + 1) L) {h : Hp} (r : Int32) (h1 : Hp) (h2 : Hp) (ex : s_X9_sample 0 (xs (i + 1).toNatClampNeg) h = some (r, h1)) (em : s_X10_sample 66 (xs (i + 1).toNatClampNeg) h1 = some (r, h2)) (kk : Go K 877 [(0, .ref b), (1, .ref (ad K 0)), (2, .ref (ad K 66)), (3, .int i)] [] h2) : Go K 654 [(0, .ref b), (1, .ref (ad K 0)), (2, .ref (ad K 66)), (3, .int i)] [] h := by
  refine g_aload_n (pc := 654) 1 S dL_law_654 rfl ?_
  refine g_aload_n (pc := 655) 0 S dL_law_655 rfl ?_
  refine g_iload_n (pc := 656) 3 S dL_law_656 rfl ?_
  refine g_iconst (pc := 657) (v := (1 : Int32)) S dL_law_657 (by decide) ?_
  refine g_iadd (pc := 658) S dL_law_658 ?_
  refine g_sld (pc := 659) S hX hbl hbA dL_law_659 hi1 ?_
  refine g_callV (pc := 660) (As := [.int (xs (i + 1).toNatClampNeg)]) (rest := []) (r := some (.int r)) (h' := h1) S dL_law_660 kd_x rfl (lx_in_17 _ (List.mem_of_getElem? (i := 38) rfl)) (lx_in_17 _ (List.mem_of_getElem? (i := 39) rfl)) (lx_in_18 _ (List.mem_of_getElem? (i := 0) rfl)) mw_X9_sample (m_X9_sample kd_x (xs (i + 1).toNatClampNeg) h ex) rfl rfl (Nat.le_of_ble_eq_true rfl) (Nat.le_of_ble_eq_true rfl) (Nat.le_of_ble_eq_true rfl) ?_
  refine g_aload_n (pc := 663) 2 S dL_law_663 rfl ?_
  refine g_aload_n (pc := 664) 0 S dL_law_664 rfl ?_
  refine g_iload_n (pc := 665) 3 S dL_law_665 rfl ?_
  refine g_iconst (pc := 666) (v := (1 : Int32)) S dL_law_666 (by decide) ?_
  refine g_iadd (pc := 667) S dL_law_667 ?_
  refine g_sld (pc := 668) S hX hbl hbA dL_law_668 hi1 ?_
  refine g_callV (pc := 669) (As := [.int (xs (i + 1).toNatClampNeg)]) (rest := [.int r]) (r := some (.int r)) (h' := h2) S dL_law_669 kd_m rfl (lx_in_29 _ (List.mem_of_getElem? (i := 6) rfl)) (lx_in_29 _ (List.mem_of_getElem? (i := 7) rfl)) (lx_in_29 _ (List.mem_of_getElem? (i := 8) rfl)) mw_X10_sample (m_X10_sample kd_m (xs (i + 1).toNatClampNeg) h1 em) rfl rfl (Nat.le_of_ble_eq_true rfl) (Nat.le_of_ble_eq_true rfl) (Nat.le_of_ble_eq_true rfl) ?_
  exact g_icmp_eq (pc := 672) (tgt := 877) (A0 := some ()) (B0 := none) (X := ()) S dL_law_672 (by decide) (if_pos rfl) (fun _ => kk) (fun h9 => absurd h9 (by simp))
set_option maxHeartbeats 4000000 in
theorem lc_19 {K : gK} (S : Cx K RL cL_law 4 8 322) {b L : Nat} {xs : Nat → Int32} (hX : va_X b L xs K.2.1.1 K.2.1.1.heap) (hbl : b < K.2.1.1.heap.size) (hbA : ¬ K.2.2.2.1.2.2.2 b) {i : Int32} (hi1 : vp_in (i + 1) L) {h : Hp} (r : Int32) (h1 : Hp) (h2 : Hp) (ex : s_X9_value 0 (xs (i + 1).toNatClampNeg) h = some (r, h1)) (em : s_X10_value 66 (xs (i + 1).toNatClampNeg) h1 = some (r, h2)) (kk : Go K 877 [(0, .ref b), (1, .ref (ad K 0)), (2, .ref (ad K 66)), (3, .int i)] [] h2) : Go K 677 [(0, .ref b), (1, .ref (ad K 0)), (2, .ref (ad K 66)), (3, .int i)] [] h := by
  refine g_aload_n (pc := 677) 1 S dL_law_677 rfl ?_
  refine g_aload_n (pc := 678) 0 S dL_law_678 rfl ?_
  refine g_iload_n (pc := 679) 3 S dL_law_679 rfl ?_
  refine g_iconst (pc := 680) (v := (1 : Int32)) S dL_law_680 (by decide) ?_
  refine g_iadd (pc := 681) S dL_law_681 ?_
  refine g_sld (pc := 682) S hX hbl hbA dL_law_682 hi1 ?_
  refine g_callV (pc := 683) (As := [.int (xs (i + 1).toNatClampNeg)]) (rest := []) (r := some (.int r)) (h' := h1) S dL_law_683 kd_x rfl (lx_in_18 _ (List.mem_of_getElem? (i := 31) rfl)) (lx_in_18 _ (List.mem_of_getElem? (i := 32) rfl)) (lx_in_18 _ (List.mem_of_getElem? (i := 33) rfl)) mw_X9_value (m_X9_value kd_x (xs (i + 1).toNatClampNeg) h ex) rfl rfl (Nat.le_of_ble_eq_true rfl) (Nat.le_of_ble_eq_true rfl) (Nat.le_of_ble_eq_true rfl) ?_
  refine g_aload_n (pc := 686) 2 S dL_law_686 rfl ?_
  refine g_aload_n (pc := 687) 0 S dL_law_687 rfl ?_
  refine g_iload_n (pc := 688) 3 S dL_law_688 rfl ?_
  refine g_iconst (pc := 689) (v := (1 : Int32)) S dL_law_689 (by decide) ?_
  refine g_iadd (pc := 690) S dL_law_690 ?_
  refine g_sld (pc := 691) S hX hbl hbA dL_law_691 hi1 ?_
  refine g_callV (pc := 692) (As := [.int (xs (i + 1).toNatClampNeg)]) (rest := [.int r]) (r := some (.int r)) (h' := h2) S dL_law_692 kd_m rfl (lx_in_29 _ (List.mem_of_getElem? (i := 20) rfl)) (lx_in_29 _ (List.mem_of_getElem? (i := 21) rfl)) (lx_in_29 _ (List.mem_of_getElem? (i := 22) rfl)) mw_X10_value (m_X10_value kd_m (xs (i + 1).toNatClampNeg) h1 em) rfl rfl (Nat.le_of_ble_eq_true rfl) (Nat.le_of_ble_eq_true rfl) (Nat.le_of_ble_eq_true rfl) ?_
  exact g_icmp_eq (pc := 695) (tgt := 877) (A0 := some ()) (B0 := none) (X := ()) S dL_law_695 (by decide) (if_pos rfl) (fun _ => kk) (fun h9 => absurd h9 (by simp))
set_option maxHeartbeats 4000000 in
theorem lc_20 {K : gK} (S : Cx K RL cL_law 4 8 322) {b L : Nat} {xs : Nat → Int32} (hX : va_X b L xs K.2.1.1 K.2.1.1.heap) (hbl : b < K.2.1.1.heap.size) (hbA : ¬ K.2.2.2.1.2.2.2 b) {i : Int32} (hi1 : vp_in (i + 1) L) (hi2 : vp_in (i + 2) L) {h : Hp} (r : Int32) (h1 : Hp) (h2 : Hp) (ex : s_X9_corner 0 (xs (i + 1).toNatClampNeg) (xs (i + 2).toNatClampNeg) h = some (r, h1)) (em : s_X10_corner 66 (xs (i + 1).toNatClampNeg) (xs (i + 2).toNatClampNeg) h1 = some (r, h2)) (kk : Go K 877 [(0, .ref b), (1, .ref (ad K 0)), (2, .ref (ad K 66)), (3, .int i)] [] h2) : Go K 700 [(0, .ref b), (1, .ref (ad K 0)), (2, .ref (ad K 66)), (3, .int i)] [] h := by
  refine g_aload_n (pc := 700) 1 S dL_law_700 rfl ?_
  refine g_aload_n (pc := 701) 0 S dL_law_701 rfl ?_
  refine g_iload_n (pc := 702) 3 S dL_law_702 rfl ?_
  refine g_iconst (pc := 703) (v := (1 : Int32)) S dL_law_703 (by decide) ?_
  refine g_iadd (pc := 704) S dL_law_704 ?_
  refine g_sld (pc := 705) S hX hbl hbA dL_law_705 hi1 ?_
  refine g_aload_n (pc := 706) 0 S dL_law_706 rfl ?_
  refine g_iload_n (pc := 707) 3 S dL_law_707 rfl ?_
  refine g_iconst (pc := 708) (v := (2 : Int32)) S dL_law_708 (by decide) ?_
  refine g_iadd (pc := 709) S dL_law_709 ?_
  refine g_sld (pc := 710) S hX hbl hbA dL_law_710 hi2 ?_
  refine g_callV (pc := 711) (As := [.int (xs (i + 1).toNatClampNeg), .int (xs (i + 2).toNatClampNeg)]) (rest := []) (r := some (.int r)) (h' := h1) S dL_law_711 kd_x rfl (lx_in_18 _ (List.mem_of_getElem? (i := 38) rfl)) (lx_in_18 _ (List.mem_of_getElem? (i := 39) rfl)) (lx_in_19 _ (List.mem_of_getElem? (i := 0) rfl)) mw_X9_corner (m_X9_corner kd_x (xs (i + 1).toNatClampNeg) (xs (i + 2).toNatClampNeg) h ex) rfl rfl (Nat.le_of_ble_eq_true rfl) (Nat.le_of_ble_eq_true rfl) (Nat.le_of_ble_eq_true rfl) ?_
  refine g_aload_n (pc := 714) 2 S dL_law_714 rfl ?_
  refine g_aload_n (pc := 715) 0 S dL_law_715 rfl ?_
  refine g_iload_n (pc := 716) 3 S dL_law_716 rfl ?_
  refine g_iconst (pc := 717) (v := (1 : Int32)) S dL_law_717 (by decide) ?_
  refine g_iadd (pc := 718) S dL_law_718 ?_
  refine g_sld (pc := 719) S hX hbl hbA dL_law_719 hi1 ?_
  refine g_aload_n (pc := 720) 0 S dL_law_720 rfl ?_
  refine g_iload_n (pc := 721) 3 S dL_law_721 rfl ?_
  refine g_iconst (pc := 722) (v := (2 : Int32)) S dL_law_722 (by decide) ?_
  refine g_iadd (pc := 723) S dL_law_723 ?_
  refine g_sld (pc := 724) S hX hbl hbA dL_law_724 hi2 ?_
  refine g_callV (pc := 725) (As := [.int (xs (i + 1).toNatClampNeg), .int (xs (i + 2).toNatClampNeg)]) (rest := [.int r]) (r := some (.int r)) (h' := h2) S dL_law_725 kd_m rfl (lx_in_29 _ (List.mem_of_getElem? (i := 24) rfl)) (lx_in_29 _ (List.mem_of_getElem? (i := 25) rfl)) (lx_in_29 _ (List.mem_of_getElem? (i := 26) rfl)) mw_X10_corner (m_X10_corner kd_m (xs (i + 1).toNatClampNeg) (xs (i + 2).toNatClampNeg) h1 em) rfl rfl (Nat.le_of_ble_eq_true rfl) (Nat.le_of_ble_eq_true rfl) (Nat.le_of_ble_eq_true rfl) ?_
  exact g_icmp_eq (pc := 728) (tgt := 877) (A0 := some ()) (B0 := none) (X := ()) S dL_law_728 (by decide) (if_pos rfl) (fun _ => kk) (fun h9 => absurd h9 (by simp))
set_option maxHeartbeats 4000000 in
theorem lc_21 {K : gK} (S : Cx K RL cL_law 4 8 322) {b L : Nat} {xs : Nat → Int32} (hX : va_X b L xs K.2.1.1 K.2.1.1.heap) (hbl : b < K.2.1.1.heap.size) (hbA : ¬ K.2.2.2.1.2.2.2 b) {i : Int32} (hi1 : vp_in (i + 1) L) (hi2 : vp_in (i + 2) L) {h : Hp} (r : Int32) (h1 : Hp) (h2 : Hp) (ex : s_X9_whole 0 (xs (i + 1).toNatClampNeg) (xs (i + 2).toNatClampNeg) h = some (r, h1)) (em : s_X10_whole 66 (xs (i + 1).toNatClampNeg) (xs (i + 2).toNatClampNeg) h1 = some (r, h2)) (kk : Go K 877 [(0, .ref b), (1, .ref (ad K 0)), (2, .ref (ad K 66)), (3, .int i)] [] h2) : Go K 733 [(0, .ref b), (1, .ref (ad K 0)), (2, .ref (ad K 66)), (3, .int i)] [] h := by
  refine g_aload_n (pc := 733) 1 S dL_law_733 rfl ?_
  refine g_aload_n (pc := 734) 0 S dL_law_734 rfl ?_
  refine g_iload_n (pc := 735) 3 S dL_law_735 rfl ?_
  refine g_iconst (pc := 736) (v := (1 : Int32)) S dL_law_736 (by decide) ?_
  refine g_iadd (pc := 737) S dL_law_737 ?_
  refine g_sld (pc := 738) S hX hbl hbA dL_law_738 hi1 ?_
  refine g_aload_n (pc := 739) 0 S dL_law_739 rfl ?_
  refine g_iload_n (pc := 740) 3 S dL_law_740 rfl ?_
  refine g_iconst (pc := 741) (v := (2 : Int32)) S dL_law_741 (by decide) ?_
  refine g_iadd (pc := 742) S dL_law_742 ?_
  refine g_sld (pc := 743) S hX hbl hbA dL_law_743 hi2 ?_
  refine g_callV (pc := 744) (As := [.int (xs (i + 1).toNatClampNeg), .int (xs (i + 2).toNatClampNeg)]) (rest := []) (r := some (.int r)) (h' := h1) S dL_law_744 kd_x rfl (lx_in_19 _ (List.mem_of_getElem? (i := 32) rfl)) (lx_in_19 _ (List.mem_of_getElem? (i := 33) rfl)) (lx_in_19 _ (List.mem_of_getElem? (i := 34) rfl)) mw_X9_whole (m_X9_whole kd_x (xs (i + 1).toNatClampNeg) (xs (i + 2).toNatClampNeg) h ex) rfl rfl (Nat.le_of_ble_eq_true rfl) (Nat.le_of_ble_eq_true rfl) (Nat.le_of_ble_eq_true rfl) ?_
  refine g_aload_n (pc := 747) 2 S dL_law_747 rfl ?_
  refine g_aload_n (pc := 748) 0 S dL_law_748 rfl ?_
  refine g_iload_n (pc := 749) 3 S dL_law_749 rfl ?_
  refine g_iconst (pc := 750) (v := (1 : Int32)) S dL_law_750 (by decide) ?_
  refine g_iadd (pc := 751) S dL_law_751 ?_
  refine g_sld (pc := 752) S hX hbl hbA dL_law_752 hi1 ?_
  refine g_aload_n (pc := 753) 0 S dL_law_753 rfl ?_
  refine g_iload_n (pc := 754) 3 S dL_law_754 rfl ?_
  refine g_iconst (pc := 755) (v := (2 : Int32)) S dL_law_755 (by decide) ?_
  refine g_iadd (pc := 756) S dL_law_756 ?_
  refine g_sld (pc := 757) S hX hbl hbA dL_law_757 hi2 ?_
  refine g_callV (pc := 758) (As := [.int (xs (i + 1).toNatClampNeg), .int (xs (i + 2).toNatClampNeg)]) (rest := [.int r]) (r := some (.int r)) (h' := h2) S dL_law_758 kd_m rfl (lx_in_30 _ (List.mem_of_getElem? (i := 18) rfl)) (lx_in_30 _ (List.mem_of_getElem? (i := 19) rfl)) (lx_in_30 _ (List.mem_of_getElem? (i := 20) rfl)) mw_X10_whole (m_X10_whole kd_m (xs (i + 1).toNatClampNeg) (xs (i + 2).toNatClampNeg) h1 em) rfl rfl (Nat.le_of_ble_eq_true rfl) (Nat.le_of_ble_eq_true rfl) (Nat.le_of_ble_eq_true rfl) ?_
  exact g_icmp_eq (pc := 761) (tgt := 877) (A0 := some ()) (B0 := none) (X := ()) S dL_law_761 (by decide) (if_pos rfl) (fun _ => kk) (fun h9 => absurd h9 (by simp))
set_option maxHeartbeats 4000000 in
theorem lc_22 {K : gK} (S : Cx K RL cL_law 4 8 322) {b L : Nat} {xs : Nat → Int32} (hX : va_X b L xs K.2.1.1 K.2.1.1.heap) (hbl : b < K.2.1.1.heap.size) (hbA : ¬ K.2.2.2.1.2.2.2 b) {i : Int32}  {h : Hp} (r : Int64)  (ex : s_X9_upper 0  h = some r) (em : s_X10_upper 66  h = some r) (kk : Go K 877 [(0, .ref b), (1, .ref (ad K 0)), (2, .ref (ad K 66)), (3, .int i)] [] h) : Go K 766 [(0, .ref b), (1, .ref (ad K 0)), (2, .ref (ad K 66)), (3, .int i)] [] h := by
  refine g_aload_n (pc := 766) 1 S dL_law_766 rfl ?_
  refine g_callV (pc := 767) (As := []) (rest := []) (r := some (.long r)) (h' := h) S dL_law_767 kd_x rfl (lx_in_20 _ (List.mem_of_getElem? (i := 1) rfl)) (lx_in_20 _ (List.mem_of_getElem? (i := 2) rfl)) (lx_in_20 _ (List.mem_of_getElem? (i := 3) rfl)) mw_X9_upper (m_X9_upper kd_x  h ex) rfl rfl (Nat.le_of_ble_eq_true rfl) (Nat.le_of_ble_eq_true rfl) (Nat.le_of_ble_eq_true rfl) ?_
  refine g_aload_n (pc := 770) 2 S dL_law_770 rfl ?_
  refine g_callV (pc := 771) (As := []) (rest := [.long r]) (r := some (.long r)) (h' := h) S dL_law_771 kd_m rfl (lx_in_30 _ (List.mem_of_getElem? (i := 31) rfl)) (lx_in_30 _ (List.mem_of_getElem? (i := 32) rfl)) (lx_in_30 _ (List.mem_of_getElem? (i := 33) rfl)) mw_X10_upper (m_X10_upper kd_m  h em) rfl rfl (Nat.le_of_ble_eq_true rfl) (Nat.le_of_ble_eq_true rfl) (Nat.le_of_ble_eq_true rfl) ?_
  exact g_lcmp_eq (pc := 774) (tgt := 877) (A0 := some ()) (B0 := none) (X := ()) S dL_law_774 dL_law_775 (by decide) (if_pos rfl) (fun _ => kk) (fun h9 => absurd h9 (by simp))
set_option maxHeartbeats 4000000 in
theorem lc_23 {K : gK} (S : Cx K RL cL_law 4 8 322) {b L : Nat} {xs : Nat → Int32} (hX : va_X b L xs K.2.1.1 K.2.1.1.heap) (hbl : b < K.2.1.1.heap.size) (hbA : ¬ K.2.2.2.1.2.2.2 b) {i : Int32}  {h : Hp} (r : Int64)  (ex : s_X9_lower 0  h = some r) (em : s_X10_lower 66  h = some r) (kk : Go K 877 [(0, .ref b), (1, .ref (ad K 0)), (2, .ref (ad K 66)), (3, .int i)] [] h) : Go K 780 [(0, .ref b), (1, .ref (ad K 0)), (2, .ref (ad K 66)), (3, .int i)] [] h := by
  refine g_aload_n (pc := 780) 1 S dL_law_780 rfl ?_
  refine g_callV (pc := 781) (As := []) (rest := []) (r := some (.long r)) (h' := h) S dL_law_781 kd_x rfl (lx_in_20 _ (List.mem_of_getElem? (i := 5) rfl)) (lx_in_20 _ (List.mem_of_getElem? (i := 6) rfl)) (lx_in_20 _ (List.mem_of_getElem? (i := 7) rfl)) mw_X9_lower (m_X9_lower kd_x  h ex) rfl rfl (Nat.le_of_ble_eq_true rfl) (Nat.le_of_ble_eq_true rfl) (Nat.le_of_ble_eq_true rfl) ?_
  refine g_aload_n (pc := 784) 2 S dL_law_784 rfl ?_
  refine g_callV (pc := 785) (As := []) (rest := [.long r]) (r := some (.long r)) (h' := h) S dL_law_785 kd_m rfl (lx_in_30 _ (List.mem_of_getElem? (i := 35) rfl)) (lx_in_30 _ (List.mem_of_getElem? (i := 36) rfl)) (lx_in_30 _ (List.mem_of_getElem? (i := 37) rfl)) mw_X10_lower (m_X10_lower kd_m  h em) rfl rfl (Nat.le_of_ble_eq_true rfl) (Nat.le_of_ble_eq_true rfl) (Nat.le_of_ble_eq_true rfl) ?_
  exact g_lcmp_eq (pc := 788) (tgt := 877) (A0 := some ()) (B0 := none) (X := ()) S dL_law_788 dL_law_789 (by decide) (if_pos rfl) (fun _ => kk) (fun h9 => absurd h9 (by simp))
set_option maxHeartbeats 4000000 in
theorem lc_24 {K : gK} (S : Cx K RL cL_law 4 8 322) {b L : Nat} {xs : Nat → Int32} (hX : va_X b L xs K.2.1.1 K.2.1.1.heap) (hbl : b < K.2.1.1.heap.size) (hbA : ¬ K.2.2.2.1.2.2.2 b) {i : Int32}  {h : Hp} (r : Int64)  (ex : s_X9_told 0  h = some r) (em : s_X10_told 66  h = some r) (kk : Go K 877 [(0, .ref b), (1, .ref (ad K 0)), (2, .ref (ad K 66)), (3, .int i)] [] h) : Go K 794 [(0, .ref b), (1, .ref (ad K 0)), (2, .ref (ad K 66)), (3, .int i)] [] h := by
  refine g_aload_n (pc := 794) 1 S dL_law_794 rfl ?_
  refine g_callV (pc := 795) (As := []) (rest := []) (r := some (.long r)) (h' := h) S dL_law_795 kd_x rfl (lx_in_20 _ (List.mem_of_getElem? (i := 9) rfl)) (lx_in_20 _ (List.mem_of_getElem? (i := 10) rfl)) (lx_in_20 _ (List.mem_of_getElem? (i := 11) rfl)) mw_X9_told (m_X9_told kd_x  h ex) rfl rfl (Nat.le_of_ble_eq_true rfl) (Nat.le_of_ble_eq_true rfl) (Nat.le_of_ble_eq_true rfl) ?_
  refine g_aload_n (pc := 798) 2 S dL_law_798 rfl ?_
  refine g_callV (pc := 799) (As := []) (rest := [.long r]) (r := some (.long r)) (h' := h) S dL_law_799 kd_m rfl (lx_in_30 _ (List.mem_of_getElem? (i := 39) rfl)) (lx_in_31 _ (List.mem_of_getElem? (i := 0) rfl)) (lx_in_31 _ (List.mem_of_getElem? (i := 1) rfl)) mw_X10_told (m_X10_told kd_m  h em) rfl rfl (Nat.le_of_ble_eq_true rfl) (Nat.le_of_ble_eq_true rfl) (Nat.le_of_ble_eq_true rfl) ?_
  exact g_lcmp_eq (pc := 802) (tgt := 877) (A0 := some ()) (B0 := none) (X := ()) S dL_law_802 dL_law_803 (by decide) (if_pos rfl) (fun _ => kk) (fun h9 => absurd h9 (by simp))
set_option maxHeartbeats 4000000 in
theorem lc_25 {K : gK} (S : Cx K RL cL_law 4 8 322) {b L : Nat} {xs : Nat → Int32} (hX : va_X b L xs K.2.1.1 K.2.1.1.heap) (hbl : b < K.2.1.1.heap.size) (hbA : ¬ K.2.2.2.1.2.2.2 b) {i : Int32} (hi1 : vp_in (i + 1) L) {h : Hp} (r : Int32) (h1 : Hp) (h2 : Hp) (ex : s_X9_keep 0 (xs (i + 1).toNatClampNeg) h = some (r, h1)) (em : s_X10_keep 66 (xs (i + 1).toNatClampNeg) h1 = some (r, h2)) (kk : Go K 877 [(0, .ref b), (1, .ref (ad K 0)), (2, .ref (ad K 66)), (3, .int i)] [] h2) : Go K 808 [(0, .ref b), (1, .ref (ad K 0)), (2, .ref (ad K 66)), (3, .int i)] [] h := by
  refine g_aload_n (pc := 808) 1 S dL_law_808 rfl ?_
  refine g_aload_n (pc := 809) 0 S dL_law_809 rfl ?_
  refine g_iload_n (pc := 810) 3 S dL_law_810 rfl ?_
  refine g_iconst (pc := 811) (v := (1 : Int32)) S dL_law_811 (by decide) ?_
  refine g_iadd (pc := 812) S dL_law_812 ?_
  refine g_sld (pc := 813) S hX hbl hbA dL_law_813 hi1 ?_
  refine g_callV (pc := 814) (As := [.int (xs (i + 1).toNatClampNeg)]) (rest := []) (r := some (.int r)) (h' := h1) S dL_law_814 kd_x rfl (lx_in_20 _ (List.mem_of_getElem? (i := 13) rfl)) (lx_in_20 _ (List.mem_of_getElem? (i := 14) rfl)) (lx_in_20 _ (List.mem_of_getElem? (i := 15) rfl)) mw_X9_keep (m_X9_keep kd_x (xs (i + 1).toNatClampNeg) h ex) rfl rfl (Nat.le_of_ble_eq_true rfl) (Nat.le_of_ble_eq_true rfl) (Nat.le_of_ble_eq_true rfl) ?_
  refine g_aload_n (pc := 817) 2 S dL_law_817 rfl ?_
  refine g_aload_n (pc := 818) 0 S dL_law_818 rfl ?_
  refine g_iload_n (pc := 819) 3 S dL_law_819 rfl ?_
  refine g_iconst (pc := 820) (v := (1 : Int32)) S dL_law_820 (by decide) ?_
  refine g_iadd (pc := 821) S dL_law_821 ?_
  refine g_sld (pc := 822) S hX hbl hbA dL_law_822 hi1 ?_
  refine g_callV (pc := 823) (As := [.int (xs (i + 1).toNatClampNeg)]) (rest := [.int r]) (r := some (.int r)) (h' := h2) S dL_law_823 kd_m rfl (lx_in_24 _ (List.mem_of_getElem? (i := 26) rfl)) (lx_in_24 _ (List.mem_of_getElem? (i := 27) rfl)) (lx_in_24 _ (List.mem_of_getElem? (i := 28) rfl)) mw_X10_keep (m_X10_keep kd_m (xs (i + 1).toNatClampNeg) h1 em) rfl rfl (Nat.le_of_ble_eq_true rfl) (Nat.le_of_ble_eq_true rfl) (Nat.le_of_ble_eq_true rfl) ?_
  exact g_icmp_eq (pc := 826) (tgt := 877) (A0 := some ()) (B0 := none) (X := ()) S dL_law_826 (by decide) (if_pos rfl) (fun _ => kk) (fun h9 => absurd h9 (by simp))
set_option maxHeartbeats 4000000 in
theorem lc_26 {K : gK} (S : Cx K RL cL_law 4 8 322) {b L : Nat} {xs : Nat → Int32} (hX : va_X b L xs K.2.1.1 K.2.1.1.heap) (hbl : b < K.2.1.1.heap.size) (hbA : ¬ K.2.2.2.1.2.2.2 b) {i : Int32} (hi1 : vp_in (i + 1) L) {h : Hp} (r : Int32) (h1 : Hp) (h2 : Hp) (ex : s_X9_back 0 (xs (i + 1).toNatClampNeg) h = some (r, h1)) (em : s_X10_back 66 (xs (i + 1).toNatClampNeg) h1 = some (r, h2)) (kk : Go K 877 [(0, .ref b), (1, .ref (ad K 0)), (2, .ref (ad K 66)), (3, .int i)] [] h2) : Go K 831 [(0, .ref b), (1, .ref (ad K 0)), (2, .ref (ad K 66)), (3, .int i)] [] h := by
  refine g_aload_n (pc := 831) 1 S dL_law_831 rfl ?_
  refine g_aload_n (pc := 832) 0 S dL_law_832 rfl ?_
  refine g_iload_n (pc := 833) 3 S dL_law_833 rfl ?_
  refine g_iconst (pc := 834) (v := (1 : Int32)) S dL_law_834 (by decide) ?_
  refine g_iadd (pc := 835) S dL_law_835 ?_
  refine g_sld (pc := 836) S hX hbl hbA dL_law_836 hi1 ?_
  refine g_callV (pc := 837) (As := [.int (xs (i + 1).toNatClampNeg)]) (rest := []) (r := some (.int r)) (h' := h1) S dL_law_837 kd_x rfl (lx_in_20 _ (List.mem_of_getElem? (i := 17) rfl)) (lx_in_20 _ (List.mem_of_getElem? (i := 18) rfl)) (lx_in_20 _ (List.mem_of_getElem? (i := 19) rfl)) mw_X9_back (m_X9_back kd_x (xs (i + 1).toNatClampNeg) h ex) rfl rfl (Nat.le_of_ble_eq_true rfl) (Nat.le_of_ble_eq_true rfl) (Nat.le_of_ble_eq_true rfl) ?_
  refine g_aload_n (pc := 840) 2 S dL_law_840 rfl ?_
  refine g_aload_n (pc := 841) 0 S dL_law_841 rfl ?_
  refine g_iload_n (pc := 842) 3 S dL_law_842 rfl ?_
  refine g_iconst (pc := 843) (v := (1 : Int32)) S dL_law_843 (by decide) ?_
  refine g_iadd (pc := 844) S dL_law_844 ?_
  refine g_sld (pc := 845) S hX hbl hbA dL_law_845 hi1 ?_
  refine g_callV (pc := 846) (As := [.int (xs (i + 1).toNatClampNeg)]) (rest := [.int r]) (r := some (.int r)) (h' := h2) S dL_law_846 kd_m rfl (lx_in_24 _ (List.mem_of_getElem? (i := 36) rfl)) (lx_in_24 _ (List.mem_of_getElem? (i := 37) rfl)) (lx_in_24 _ (List.mem_of_getElem? (i := 38) rfl)) mw_X10_back (m_X10_back kd_m (xs (i + 1).toNatClampNeg) h1 em) rfl rfl (Nat.le_of_ble_eq_true rfl) (Nat.le_of_ble_eq_true rfl) (Nat.le_of_ble_eq_true rfl) ?_
  exact g_icmp_eq (pc := 849) (tgt := 877) (A0 := some ()) (B0 := none) (X := ()) S dL_law_849 (by decide) (if_pos rfl) (fun _ => kk) (fun h9 => absurd h9 (by simp))
set_option maxHeartbeats 4000000 in
theorem lc_27 {K : gK} (S : Cx K RL cL_law 4 8 322) {b L : Nat} {xs : Nat → Int32} (hX : va_X b L xs K.2.1.1 K.2.1.1.heap) (hbl : b < K.2.1.1.heap.size) (hbA : ¬ K.2.2.2.1.2.2.2 b) {i : Int32} (hi1 : vp_in (i + 1) L) {h : Hp} (r : Int32) (h1 : Hp) (h2 : Hp) (ex : s_X9_count 0 (xs (i + 1).toNatClampNeg) h = some (r, h1)) (em : s_X10_count 66 (xs (i + 1).toNatClampNeg) h1 = some (r, h2)) (kk : Go K 877 [(0, .ref b), (1, .ref (ad K 0)), (2, .ref (ad K 66)), (3, .int i)] [] h2) : Go K 854 [(0, .ref b), (1, .ref (ad K 0)), (2, .ref (ad K 66)), (3, .int i)] [] h := by
  refine g_aload_n (pc := 854) 1 S dL_law_854 rfl ?_
  refine g_aload_n (pc := 855) 0 S dL_law_855 rfl ?_
  refine g_iload_n (pc := 856) 3 S dL_law_856 rfl ?_
  refine g_iconst (pc := 857) (v := (1 : Int32)) S dL_law_857 (by decide) ?_
  refine g_iadd (pc := 858) S dL_law_858 ?_
  refine g_sld (pc := 859) S hX hbl hbA dL_law_859 hi1 ?_
  refine g_callV (pc := 860) (As := [.int (xs (i + 1).toNatClampNeg)]) (rest := []) (r := some (.int r)) (h' := h1) S dL_law_860 kd_x rfl (lx_in_20 _ (List.mem_of_getElem? (i := 21) rfl)) (lx_in_20 _ (List.mem_of_getElem? (i := 22) rfl)) (lx_in_20 _ (List.mem_of_getElem? (i := 23) rfl)) mw_X9_count (m_X9_count kd_x (xs (i + 1).toNatClampNeg) h ex) rfl rfl (Nat.le_of_ble_eq_true rfl) (Nat.le_of_ble_eq_true rfl) (Nat.le_of_ble_eq_true rfl) ?_
  refine g_aload_n (pc := 863) 2 S dL_law_863 rfl ?_
  refine g_aload_n (pc := 864) 0 S dL_law_864 rfl ?_
  refine g_iload_n (pc := 865) 3 S dL_law_865 rfl ?_
  refine g_iconst (pc := 866) (v := (1 : Int32)) S dL_law_866 (by decide) ?_
  refine g_iadd (pc := 867) S dL_law_867 ?_
  refine g_sld (pc := 868) S hX hbl hbA dL_law_868 hi1 ?_
  refine g_callV (pc := 869) (As := [.int (xs (i + 1).toNatClampNeg)]) (rest := [.int r]) (r := some (.int r)) (h' := h2) S dL_law_869 kd_m rfl (lx_in_31 _ (List.mem_of_getElem? (i := 3) rfl)) (lx_in_31 _ (List.mem_of_getElem? (i := 4) rfl)) (lx_in_31 _ (List.mem_of_getElem? (i := 5) rfl)) mw_X10_count (m_X10_count kd_m (xs (i + 1).toNatClampNeg) h1 em) rfl rfl (Nat.le_of_ble_eq_true rfl) (Nat.le_of_ble_eq_true rfl) (Nat.le_of_ble_eq_true rfl) ?_
  exact g_icmp_eq (pc := 872) (tgt := 877) (A0 := some ()) (B0 := none) (X := ()) S dL_law_872 (by decide) (if_pos rfl) (fun _ => kk) (fun h9 => absurd h9 (by simp))
def St_0 (Inv : Hp → Prop) : Prop := ∀ h : Hp, Inv h → ∀ a1 : Int32, ∃ r : Int32, ∃ h1 h2 : Hp, s_X9_type 0 a1 h = some (r, h1) ∧ s_X10_type 66 a1 h1 = some (r, h2) ∧ Inv h2
def St_1 (Inv : Hp → Prop) : Prop := ∀ h : Hp, Inv h → ∃ r : Int32, ∃ h1 h2 : Hp, s_X9_clear 0  h = some (r, h1) ∧ s_X10_clear 66  h1 = some (r, h2) ∧ Inv h2
def St_2 (Inv : Hp → Prop) : Prop := ∀ h : Hp, Inv h → ∃ r : Int32, ∃ h1 h2 : Hp, s_X9_tells 0  h = some (r, h1) ∧ s_X10_tells 66  h1 = some (r, h2) ∧ Inv h2
def St_3 (Inv : Hp → Prop) : Prop := ∀ h : Hp, Inv h → ∀ a1 a2 a3 : Int32, ∃ r : Int32, ∃ h1 h2 : Hp, s_X9_form 0 a1 a2 a3 h = some (r, h1) ∧ s_X10_form 66 a1 a2 a3 h1 = some (r, h2) ∧ Inv h2
def St_4 (Inv : Hp → Prop) : Prop := ∀ h : Hp, Inv h → ∀ a1 a2 : Int32, ∃ r : Int32, s_X9_coefficient 0 a1 a2 h = some r ∧ s_X10_coefficient 66 a1 a2 h = some r ∧ Inv h
def St_5 (Inv : Hp → Prop) : Prop := ∀ h : Hp, Inv h → ∀ a1 a2 a3 : Int32, ∃ r : Int32, ∃ h1 h2 : Hp, s_X9_asserts 0 a1 a2 a3 h = some (r, h1) ∧ s_X10_asserts 66 a1 a2 a3 h1 = some (r, h2) ∧ Inv h2
def St_6 (Inv : Hp → Prop) : Prop := ∀ h : Hp, Inv h → ∀ a1 a2 : Int32, ∃ r : Int32, s_X9_bound 0 a1 a2 h = some r ∧ s_X10_bound 66 a1 a2 h = some r ∧ Inv h
def St_7 (Inv : Hp → Prop) : Prop := ∀ h : Hp, Inv h → ∃ r : Int32, ∃ h1 h2 : Hp, s_X9_level 0  h = some (r, h1) ∧ s_X10_level 66  h1 = some (r, h2) ∧ Inv h2
def St_8 (Inv : Hp → Prop) : Prop := ∀ h : Hp, Inv h → ∀ a1 : Int32, ∃ r : Int32, ∃ h1 h2 : Hp, s_X9_withdraws 0 a1 h = some (r, h1) ∧ s_X10_withdraws 66 a1 h1 = some (r, h2) ∧ Inv h2
def St_9 (Inv : Hp → Prop) : Prop := ∀ h : Hp, Inv h → ∃ r : Int32, ∃ h2 : Hp, s_X9_met 0  h = some r ∧ s_X10_met 66  h = some (r, h2) ∧ Inv h2
def St_10 (Inv : Hp → Prop) : Prop := ∀ h : Hp, Inv h → ∃ r : Int32, ∃ h2 : Hp, s_X9_core 0  h = some r ∧ s_X10_core 66  h = some (r, h2) ∧ Inv h2
def St_11 (Inv : Hp → Prop) : Prop := ∀ h : Hp, Inv h → ∀ a1 : Int32, ∃ r : Int32, ∃ h1 h2 : Hp, s_X9_proof 0 a1 h = some (r, h1) ∧ s_X10_proof 66 a1 h1 = some (r, h2) ∧ Inv h2
def St_12 (Inv : Hp → Prop) : Prop := ∀ h : Hp, Inv h → ∀ a1 : Int32, ∃ r : Int32, ∃ h1 h2 : Hp, s_X9_relief 0 a1 h = some (r, h1) ∧ s_X10_relief 66 a1 h1 = some (r, h2) ∧ Inv h2
def St_13 (Inv : Hp → Prop) : Prop := ∀ h : Hp, Inv h → ∀ a1 : Int32, ∃ r : Int32, ∃ h2 : Hp, s_X9_spared 0 a1 h = some r ∧ s_X10_spared 66 a1 h = some (r, h2) ∧ Inv h2
def St_14 (Inv : Hp → Prop) : Prop := ∀ h : Hp, Inv h → ∀ a1 a2 : Int32, ∃ r : Int32, ∃ h1 h2 : Hp, s_X9_range 0 a1 a2 h = some (r, h1) ∧ s_X10_range 66 a1 a2 h1 = some (r, h2) ∧ Inv h2
def St_15 (Inv : Hp → Prop) : Prop := ∀ h : Hp, Inv h → ∀ a1 a2 a3 : Int32, ∃ r : Int32, ∃ h1 h2 : Hp, s_X9_follows 0 a1 a2 a3 h = some (r, h1) ∧ s_X10_follows 66 a1 a2 a3 h1 = some (r, h2) ∧ Inv h2
def St_16 (Inv : Hp → Prop) : Prop := ∀ h : Hp, Inv h → ∀ a1 a2 a3 : Int32, ∃ r : Int32, ∃ h1 h2 : Hp, s_X9_since 0 a1 a2 a3 h = some (r, h1) ∧ s_X10_since 66 a1 a2 a3 h1 = some (r, h2) ∧ Inv h2
def St_17 (Inv : Hp → Prop) : Prop := ∀ h : Hp, Inv h → ∀ a1 a2 a3 : Int32, ∃ r : Int32, ∃ h1 h2 : Hp, s_X9_why 0 a1 a2 a3 h = some (r, h1) ∧ s_X10_why 66 a1 a2 a3 h1 = some (r, h2) ∧ Inv h2
def St_18 (Inv : Hp → Prop) : Prop := ∀ h : Hp, Inv h → ∀ a1 : Int32, ∃ r : Int32, ∃ h1 h2 : Hp, s_X9_sample 0 a1 h = some (r, h1) ∧ s_X10_sample 66 a1 h1 = some (r, h2) ∧ Inv h2
def St_19 (Inv : Hp → Prop) : Prop := ∀ h : Hp, Inv h → ∀ a1 : Int32, ∃ r : Int32, ∃ h1 h2 : Hp, s_X9_value 0 a1 h = some (r, h1) ∧ s_X10_value 66 a1 h1 = some (r, h2) ∧ Inv h2
def St_20 (Inv : Hp → Prop) : Prop := ∀ h : Hp, Inv h → ∀ a1 a2 : Int32, ∃ r : Int32, ∃ h1 h2 : Hp, s_X9_corner 0 a1 a2 h = some (r, h1) ∧ s_X10_corner 66 a1 a2 h1 = some (r, h2) ∧ Inv h2
def St_21 (Inv : Hp → Prop) : Prop := ∀ h : Hp, Inv h → ∀ a1 a2 : Int32, ∃ r : Int32, ∃ h1 h2 : Hp, s_X9_whole 0 a1 a2 h = some (r, h1) ∧ s_X10_whole 66 a1 a2 h1 = some (r, h2) ∧ Inv h2
def St_22 (Inv : Hp → Prop) : Prop := ∀ h : Hp, Inv h → ∃ r : Int64, s_X9_upper 0  h = some r ∧ s_X10_upper 66  h = some r ∧ Inv h
def St_23 (Inv : Hp → Prop) : Prop := ∀ h : Hp, Inv h → ∃ r : Int64, s_X9_lower 0  h = some r ∧ s_X10_lower 66  h = some r ∧ Inv h
def St_24 (Inv : Hp → Prop) : Prop := ∀ h : Hp, Inv h → ∃ r : Int64, s_X9_told 0  h = some r ∧ s_X10_told 66  h = some r ∧ Inv h
def St_25 (Inv : Hp → Prop) : Prop := ∀ h : Hp, Inv h → ∀ a1 : Int32, ∃ r : Int32, ∃ h1 h2 : Hp, s_X9_keep 0 a1 h = some (r, h1) ∧ s_X10_keep 66 a1 h1 = some (r, h2) ∧ Inv h2
def St_26 (Inv : Hp → Prop) : Prop := ∀ h : Hp, Inv h → ∀ a1 : Int32, ∃ r : Int32, ∃ h1 h2 : Hp, s_X9_back 0 a1 h = some (r, h1) ∧ s_X10_back 66 a1 h1 = some (r, h2) ∧ Inv h2
def St_27 (Inv : Hp → Prop) : Prop := ∀ h : Hp, Inv h → ∀ a1 : Int32, ∃ r : Int32, ∃ h1 h2 : Hp, s_X9_count 0 a1 h = some (r, h1) ∧ s_X10_count 66 a1 h1 = some (r, h2) ∧ Inv h2
def Steps28 (Inv : Hp → Prop) : Prop := St_0 Inv ∧ St_1 Inv ∧ St_2 Inv ∧ St_3 Inv ∧ St_4 Inv ∧ St_5 Inv ∧ St_6 Inv ∧ St_7 Inv ∧ St_8 Inv ∧ St_9 Inv ∧ St_10 Inv ∧ St_11 Inv ∧ St_12 Inv ∧ St_13 Inv ∧ St_14 Inv ∧ St_15 Inv ∧ St_16 Inv ∧ St_17 Inv ∧ St_18 Inv ∧ St_19 Inv ∧ St_20 Inv ∧ St_21 Inv ∧ St_22 Inv ∧ St_23 Inv ∧ St_24 Inv ∧ St_25 Inv ∧ St_26 Inv ∧ St_27 Inv
set_option maxHeartbeats 8000000 in
theorem law_loop (Inv : Hp → Prop) (T : Steps28 Inv) {K : gK} (S : Cx K RL cL_law 4 8 322) {b L : Nat} {xs : Nat → Int32} (hX : va_X b L xs K.2.1.1 K.2.1.1.heap) (hbl : b < K.2.1.1.heap.size) (hbA : ¬ K.2.2.2.1.2.2.2 b) (hL : L ≤ 2048) (hend : ∀ (h : Hp) (lv : List (Nat × Value)), Go K 884 lv [.int 1] h) :
    ∀ (n k : Nat) (i : Int32) (h : Hp), L < 4 * (k + n) → 4 * k ≤ L + 4 → i = nI (4 * k) → Inv h → Go K 18 [(0, .ref b), (1, .ref (ad K 0)), (2, .ref (ad K 66)), (3, .int i)] [] h := by
  obtain ⟨T0, T1, T2, T3, T4, T5, T6, T7, T8, T9, T10, T11, T12, T13, T14, T15, T16, T17, T18, T19, T20, T21, T22, T23, T24, T25, T26, T27⟩ := T
  intro n
  induction n with
  | zero =>
    intro k i h hn hk ei hI
    refine g_iload_n (pc := 18) 3 S dL_law_18 rfl ?_
    refine g_aload_n (pc := 19) 0 S dL_law_19 rfl ?_
    refine g_slen (pc := 20) S hX hbl hbA dL_law_20 ?_
    refine g_iconst (pc := 21) (v := (4 : Int32)) S dL_law_21 (by decide) ?_
    refine g_isub (pc := 22) S dL_law_22 ?_
    have hlt : nI L - 4 < i := by
      rw [ei, Int32.lt_iff_toInt_lt, show (4 : Int32) = nI 4 from by decide, pk_sub_toInt (by omega) (by decide), nI_toInt (by omega)]
      omega
    refine g_icmp_gt (pc := 23) (tgt := 883) (A0 := some ()) (B0 := none) (X := ()) S dL_law_23 (by decide) (if_pos hlt) (fun _ => ?_) (fun h9 => absurd h9 (by simp))
    exact g_iconst (pc := 883) (v := (1 : Int32)) S dL_law_883 (by decide) (hend h _)
  | succ n ih =>
    intro k i h hn hk ei hI
    refine g_iload_n (pc := 18) 3 S dL_law_18 rfl ?_
    refine g_aload_n (pc := 19) 0 S dL_law_19 rfl ?_
    refine g_slen (pc := 20) S hX hbl hbA dL_law_20 ?_
    refine g_iconst (pc := 21) (v := (4 : Int32)) S dL_law_21 (by decide) ?_
    refine g_isub (pc := 22) S dL_law_22 ?_
    have hle : (nI L - 4).toInt = (L : Int) - 4 := by
      rw [show (4 : Int32) = nI 4 from by decide, pk_sub_toInt (by omega) (by decide)]; rfl
    have hii : i.toInt = ((4 * k : Nat) : Int) := by rw [ei]; exact nI_toInt (by omega)
    by_cases hlt : nI L - 4 < i
    · refine g_icmp_gt (pc := 23) (tgt := 883) (A0 := some ()) (B0 := none) (X := ()) S dL_law_23 (by decide) (if_pos hlt) (fun _ => ?_) (fun h9 => absurd h9 (by simp))
      exact g_iconst (pc := 883) (v := (1 : Int32)) S dL_law_883 (by decide) (hend h _)
    · have hb4 : 4 * k + 4 ≤ L := by
        have h1 : ¬ (nI L - 4).toInt < i.toInt := fun q => hlt (Int32.lt_iff_toInt_lt.mpr q)
        rw [hle, hii] at h1
        omega
      refine g_icmp_gt (pc := 23) (tgt := 883) (A0 := none) (B0 := some ()) (X := ()) S dL_law_23 (by decide) (if_neg hlt) (fun h9 => absurd h9 (by simp)) (fun _ => ?_)
      have hin : ∀ j : Nat, j < 4 → vp_in (nI (4 * k + j)) L := fun j hj => vp_in_nI (by omega) (by omega)
      have hi0 : vp_in i L := by rw [ei]; exact hin 0 (by omega)
      have hi1 : vp_in (i + 1) L := by rw [ei, show (1 : Int32) = nI 1 from by decide, nI_add]; exact hin 1 (by omega)
      have hi2 : vp_in (i + 2) L := by rw [ei, show (2 : Int32) = nI 2 from by decide, nI_add]; exact hin 2 (by omega)
      have hi3 : vp_in (i + 3) L := by rw [ei, show (3 : Int32) = nI 3 from by decide, nI_add]; exact hin 3 (by omega)
      refine g_aload_n (pc := 26) 0 S dL_law_26 rfl ?_
      refine g_iload_n (pc := 27) 3 S dL_law_27 rfl ?_
      refine g_sld (pc := 28) S hX hbl hbA dL_law_28 hi0 ?_
      refine g_bipush (pc := 29) (v := (31 : Int32)) S dL_law_29 (by decide) ?_
      refine g_iand (pc := 31) S dL_law_31 ?_
      have nxt : ∀ h2 : Hp, Inv h2 → Go K 877 [(0, .ref b), (1, .ref (ad K 0)), (2, .ref (ad K 66)), (3, .int i)] [] h2 := fun h2 hI2 => by
        refine g_iinc (pc := 877) (v := i + 4) (lv' := [(3, .int (i + 4)), (0, .ref b), (1, .ref (ad K 0)), (2, .ref (ad K 66))]) 3 S dL_law_877 rfl rfl (by decide) rfl ?_
        refine g_goto (pc := 880) (tgt := 18) S dL_law_880 (by decide) ?_
        refine g_sub [1, 2, 3, 0] rfl ?_
        exact ih (k + 1) (i + 4) h2 (by omega) (by omega) (by rw [ei, show (4 : Int32) = nI 4 from by decide, nI_add]; rfl) hI2
      generalize xs i.toNatClampNeg &&& 31 = x
      by_cases e0 : x = 0
      · refine g_tabK (pc := 32) (tgt := 160) S dL_law_32 e0 (by decide) (by decide) rfl (by decide) ?_
        obtain ⟨r, h1, h2, ex, em, hI2⟩ := T0 h hI (xs (i + 1).toNatClampNeg)
        exact lc_0 S hX hbl hbA hi1 r h1 h2 ex em (nxt h2 hI2)
      by_cases e1 : x = 1
      · refine g_tabK (pc := 32) (tgt := 183) S dL_law_32 e1 (by decide) (by decide) rfl (by decide) ?_
        obtain ⟨r, h1, h2, ex, em, hI2⟩ := T1 h hI 
        exact lc_1 S hX hbl hbA  r h1 h2 ex em (nxt h2 hI2)
      by_cases e2 : x = 2
      · refine g_tabK (pc := 32) (tgt := 196) S dL_law_32 e2 (by decide) (by decide) rfl (by decide) ?_
        obtain ⟨r, h1, h2, ex, em, hI2⟩ := T2 h hI 
        exact lc_2 S hX hbl hbA  r h1 h2 ex em (nxt h2 hI2)
      by_cases e3 : x = 3
      · refine g_tabK (pc := 32) (tgt := 209) S dL_law_32 e3 (by decide) (by decide) rfl (by decide) ?_
        obtain ⟨r, h1, h2, ex, em, hI2⟩ := T3 h hI (xs (i + 1).toNatClampNeg) (xs (i + 2).toNatClampNeg) (xs (i + 3).toNatClampNeg)
        exact lc_3 S hX hbl hbA hi1 hi2 hi3 r h1 h2 ex em (nxt h2 hI2)
      by_cases e4 : x = 4
      · refine g_tabK (pc := 32) (tgt := 252) S dL_law_32 e4 (by decide) (by decide) rfl (by decide) ?_
        obtain ⟨r, ex, em, hI2⟩ := T4 h hI (xs (i + 1).toNatClampNeg) (xs (i + 2).toNatClampNeg)
        exact lc_4 S hX hbl hbA hi1 hi2 r  ex em (nxt h hI2)
      by_cases e5 : x = 5
      · refine g_tabK (pc := 32) (tgt := 285) S dL_law_32 e5 (by decide) (by decide) rfl (by decide) ?_
        obtain ⟨r, h1, h2, ex, em, hI2⟩ := T5 h hI (xs (i + 1).toNatClampNeg) (xs (i + 2).toNatClampNeg) (xs (i + 3).toNatClampNeg)
        exact lc_5 S hX hbl hbA hi1 hi2 hi3 r h1 h2 ex em (nxt h2 hI2)
      by_cases e6 : x = 6
      · refine g_tabK (pc := 32) (tgt := 328) S dL_law_32 e6 (by decide) (by decide) rfl (by decide) ?_
        obtain ⟨r, ex, em, hI2⟩ := T6 h hI (xs (i + 1).toNatClampNeg) (xs (i + 2).toNatClampNeg)
        exact lc_6 S hX hbl hbA hi1 hi2 r  ex em (nxt h hI2)
      by_cases e7 : x = 7
      · refine g_tabK (pc := 32) (tgt := 361) S dL_law_32 e7 (by decide) (by decide) rfl (by decide) ?_
        obtain ⟨r, h1, h2, ex, em, hI2⟩ := T7 h hI 
        exact lc_7 S hX hbl hbA  r h1 h2 ex em (nxt h2 hI2)
      by_cases e8 : x = 8
      · refine g_tabK (pc := 32) (tgt := 374) S dL_law_32 e8 (by decide) (by decide) rfl (by decide) ?_
        obtain ⟨r, h1, h2, ex, em, hI2⟩ := T8 h hI (xs (i + 1).toNatClampNeg)
        exact lc_8 S hX hbl hbA hi1 r h1 h2 ex em (nxt h2 hI2)
      by_cases e9 : x = 9
      · refine g_tabK (pc := 32) (tgt := 397) S dL_law_32 e9 (by decide) (by decide) rfl (by decide) ?_
        obtain ⟨r, h2, ex, em, hI2⟩ := T9 h hI 
        exact lc_9 S hX hbl hbA  r h2 ex em (nxt h2 hI2)
      by_cases e10 : x = 10
      · refine g_tabK (pc := 32) (tgt := 410) S dL_law_32 e10 (by decide) (by decide) rfl (by decide) ?_
        obtain ⟨r, h2, ex, em, hI2⟩ := T10 h hI 
        exact lc_10 S hX hbl hbA  r h2 ex em (nxt h2 hI2)
      by_cases e11 : x = 11
      · refine g_tabK (pc := 32) (tgt := 423) S dL_law_32 e11 (by decide) (by decide) rfl (by decide) ?_
        obtain ⟨r, h1, h2, ex, em, hI2⟩ := T11 h hI (xs (i + 1).toNatClampNeg)
        exact lc_11 S hX hbl hbA hi1 r h1 h2 ex em (nxt h2 hI2)
      by_cases e12 : x = 12
      · refine g_tabK (pc := 32) (tgt := 446) S dL_law_32 e12 (by decide) (by decide) rfl (by decide) ?_
        obtain ⟨r, h1, h2, ex, em, hI2⟩ := T12 h hI (xs (i + 1).toNatClampNeg)
        exact lc_12 S hX hbl hbA hi1 r h1 h2 ex em (nxt h2 hI2)
      by_cases e13 : x = 13
      · refine g_tabK (pc := 32) (tgt := 469) S dL_law_32 e13 (by decide) (by decide) rfl (by decide) ?_
        obtain ⟨r, h2, ex, em, hI2⟩ := T13 h hI (xs (i + 1).toNatClampNeg)
        exact lc_13 S hX hbl hbA hi1 r h2 ex em (nxt h2 hI2)
      by_cases e14 : x = 14
      · refine g_tabK (pc := 32) (tgt := 492) S dL_law_32 e14 (by decide) (by decide) rfl (by decide) ?_
        obtain ⟨r, h1, h2, ex, em, hI2⟩ := T14 h hI (xs (i + 1).toNatClampNeg) (xs (i + 2).toNatClampNeg)
        exact lc_14 S hX hbl hbA hi1 hi2 r h1 h2 ex em (nxt h2 hI2)
      by_cases e15 : x = 15
      · refine g_tabK (pc := 32) (tgt := 525) S dL_law_32 e15 (by decide) (by decide) rfl (by decide) ?_
        obtain ⟨r, h1, h2, ex, em, hI2⟩ := T15 h hI (xs (i + 1).toNatClampNeg) (xs (i + 2).toNatClampNeg) (xs (i + 3).toNatClampNeg)
        exact lc_15 S hX hbl hbA hi1 hi2 hi3 r h1 h2 ex em (nxt h2 hI2)
      by_cases e16 : x = 16
      · refine g_tabK (pc := 32) (tgt := 568) S dL_law_32 e16 (by decide) (by decide) rfl (by decide) ?_
        obtain ⟨r, h1, h2, ex, em, hI2⟩ := T16 h hI (xs (i + 1).toNatClampNeg) (xs (i + 2).toNatClampNeg) (xs (i + 3).toNatClampNeg)
        exact lc_16 S hX hbl hbA hi1 hi2 hi3 r h1 h2 ex em (nxt h2 hI2)
      by_cases e17 : x = 17
      · refine g_tabK (pc := 32) (tgt := 611) S dL_law_32 e17 (by decide) (by decide) rfl (by decide) ?_
        obtain ⟨r, h1, h2, ex, em, hI2⟩ := T17 h hI (xs (i + 1).toNatClampNeg) (xs (i + 2).toNatClampNeg) (xs (i + 3).toNatClampNeg)
        exact lc_17 S hX hbl hbA hi1 hi2 hi3 r h1 h2 ex em (nxt h2 hI2)
      by_cases e18 : x = 18
      · refine g_tabK (pc := 32) (tgt := 654) S dL_law_32 e18 (by decide) (by decide) rfl (by decide) ?_
        obtain ⟨r, h1, h2, ex, em, hI2⟩ := T18 h hI (xs (i + 1).toNatClampNeg)
        exact lc_18 S hX hbl hbA hi1 r h1 h2 ex em (nxt h2 hI2)
      by_cases e19 : x = 19
      · refine g_tabK (pc := 32) (tgt := 677) S dL_law_32 e19 (by decide) (by decide) rfl (by decide) ?_
        obtain ⟨r, h1, h2, ex, em, hI2⟩ := T19 h hI (xs (i + 1).toNatClampNeg)
        exact lc_19 S hX hbl hbA hi1 r h1 h2 ex em (nxt h2 hI2)
      by_cases e20 : x = 20
      · refine g_tabK (pc := 32) (tgt := 700) S dL_law_32 e20 (by decide) (by decide) rfl (by decide) ?_
        obtain ⟨r, h1, h2, ex, em, hI2⟩ := T20 h hI (xs (i + 1).toNatClampNeg) (xs (i + 2).toNatClampNeg)
        exact lc_20 S hX hbl hbA hi1 hi2 r h1 h2 ex em (nxt h2 hI2)
      by_cases e21 : x = 21
      · refine g_tabK (pc := 32) (tgt := 733) S dL_law_32 e21 (by decide) (by decide) rfl (by decide) ?_
        obtain ⟨r, h1, h2, ex, em, hI2⟩ := T21 h hI (xs (i + 1).toNatClampNeg) (xs (i + 2).toNatClampNeg)
        exact lc_21 S hX hbl hbA hi1 hi2 r h1 h2 ex em (nxt h2 hI2)
      by_cases e22 : x = 22
      · refine g_tabK (pc := 32) (tgt := 766) S dL_law_32 e22 (by decide) (by decide) rfl (by decide) ?_
        obtain ⟨r, ex, em, hI2⟩ := T22 h hI 
        exact lc_22 S hX hbl hbA  r  ex em (nxt h hI2)
      by_cases e23 : x = 23
      · refine g_tabK (pc := 32) (tgt := 780) S dL_law_32 e23 (by decide) (by decide) rfl (by decide) ?_
        obtain ⟨r, ex, em, hI2⟩ := T23 h hI 
        exact lc_23 S hX hbl hbA  r  ex em (nxt h hI2)
      by_cases e24 : x = 24
      · refine g_tabK (pc := 32) (tgt := 794) S dL_law_32 e24 (by decide) (by decide) rfl (by decide) ?_
        obtain ⟨r, ex, em, hI2⟩ := T24 h hI 
        exact lc_24 S hX hbl hbA  r  ex em (nxt h hI2)
      by_cases e25 : x = 25
      · refine g_tabK (pc := 32) (tgt := 808) S dL_law_32 e25 (by decide) (by decide) rfl (by decide) ?_
        obtain ⟨r, h1, h2, ex, em, hI2⟩ := T25 h hI (xs (i + 1).toNatClampNeg)
        exact lc_25 S hX hbl hbA hi1 r h1 h2 ex em (nxt h2 hI2)
      by_cases e26 : x = 26
      · refine g_tabK (pc := 32) (tgt := 831) S dL_law_32 e26 (by decide) (by decide) rfl (by decide) ?_
        obtain ⟨r, h1, h2, ex, em, hI2⟩ := T26 h hI (xs (i + 1).toNatClampNeg)
        exact lc_26 S hX hbl hbA hi1 r h1 h2 ex em (nxt h2 hI2)
      by_cases e27 : x = 27
      · refine g_tabK (pc := 32) (tgt := 854) S dL_law_32 e27 (by decide) (by decide) rfl (by decide) ?_
        obtain ⟨r, h1, h2, ex, em, hI2⟩ := T27 h hI (xs (i + 1).toNatClampNeg)
        exact lc_27 S hX hbl hbA hi1 r h1 h2 ex em (nxt h2 hI2)
      refine g_tabOut (pc := 32) (tgt := 877) S dL_law_32 (by have q0 := lv_neT e0 (a := 0) rfl; have q1 := lv_neT e1 (a := 1) rfl; have q2 := lv_neT e2 (a := 2) rfl; have q3 := lv_neT e3 (a := 3) rfl; have q4 := lv_neT e4 (a := 4) rfl; have q5 := lv_neT e5 (a := 5) rfl; have q6 := lv_neT e6 (a := 6) rfl; have q7 := lv_neT e7 (a := 7) rfl; have q8 := lv_neT e8 (a := 8) rfl; have q9 := lv_neT e9 (a := 9) rfl; have q10 := lv_neT e10 (a := 10) rfl; have q11 := lv_neT e11 (a := 11) rfl; have q12 := lv_neT e12 (a := 12) rfl; have q13 := lv_neT e13 (a := 13) rfl; have q14 := lv_neT e14 (a := 14) rfl; have q15 := lv_neT e15 (a := 15) rfl; have q16 := lv_neT e16 (a := 16) rfl; have q17 := lv_neT e17 (a := 17) rfl; have q18 := lv_neT e18 (a := 18) rfl; have q19 := lv_neT e19 (a := 19) rfl; have q20 := lv_neT e20 (a := 20) rfl; have q21 := lv_neT e21 (a := 21) rfl; have q22 := lv_neT e22 (a := 22) rfl; have q23 := lv_neT e23 (a := 23) rfl; have q24 := lv_neT e24 (a := 24) rfl; have q25 := lv_neT e25 (a := 25) rfl; have q26 := lv_neT e26 (a := 26) rfl; have q27 := lv_neT e27 (a := 27) rfl; omega) (by decide) (nxt h hI)

