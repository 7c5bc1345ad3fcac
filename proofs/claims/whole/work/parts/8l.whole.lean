/-! the whole step -/
def gM (h : Hp) (m eb ec n : Nat) : Bool := hBl m (fF h) (mS h 66) (mD h 66) false (ga eb ec n) (gb eb ec n) (gc eb ec n) 1
def gG (h : Hp) (m eb ec n : Nat) : List Nat := (List.range n).filter (gM h m eb ec)
theorem gG_succ (h : Hp) (m eb ec n : Nat) : gG h m eb ec (n + 1) = gG h m eb ec n ++ (if gM h m eb ec n = true then [n] else []) := by
  unfold gG
  rw [List.range_succ, List.filter_append]
  by_cases q : gM h m eb ec n = true <;> simp [q]
theorem gG_le (h : Hp) (m eb ec n : Nat) : (gG h m eb ec n).length ≤ n := by
  have := List.length_filter_le (gM h m eb ec) (List.range n)
  rw [List.length_range] at this
  exact this
theorem gG_get {h : Hp} {m eb ec n : Nat} (hM : gM h m eb ec n = true) : ∀ d, (gG h m eb ec (n + 1 + d))[(gG h m eb ec n).length]? = some n
  | 0 => by rw [Nat.add_zero, gG_succ, if_pos hM]; simp
  | d + 1 => by
    have ih := gG_get hM d
    rw [← Nat.add_assoc, gG_succ, List.getElem?_append_left]
    · exact ih
    · exact (List.getElem?_eq_some_iff.mp ih).1
theorem gG_mem {h : Hp} {m eb ec n k q : Nat} (hq : (gG h m eb ec n)[k]? = some q) : q < n := by
  have := List.mem_of_getElem? hq
  unfold gG at this
  exact List.mem_range.mp (List.mem_filter.mp this).1
theorem g_bd {eb ec q : Nat} (ho : okE eb ec) (hq : q < 9 * (gn eb * gn ec)) : (-4 ≤ ga eb ec q ∧ ga eb ec q ≤ 4) ∧ (-4 ≤ gb eb ec q ∧ gb eb ec q ≤ 4) ∧ (-4 ≤ gc eb ec q ∧ gc eb ec q ≤ 4) := by
  unfold ga gb gc gn at *
  rcases ho with ⟨rfl, rfl⟩ | ⟨rfl, rfl⟩ | ⟨rfl, rfl⟩ <;> simp only [Nat.reduceMul, Nat.reduceAdd] at hq ⊢ <;> omega
/-- the class's walk, behind n points -/
def JC (h : Hp) (m eb ec k n : Nat) (a : Int32) (H : Hp) : Prop := a = nI (min (k + 1) (gG h m eb ec n).length) ∧ Fr [65] h H ∧ ∀ q, (gG h m eb ec n)[min (k + 1) (gG h m eb ec n).length - 1]? = some q → H.1 65 0 = i32 (ga eb ec q) ∧ H.1 65 1 = i32 (gb eb ec q) ∧ H.1 65 2 = i32 (gc eb ec q)
theorem i32_tl {z : Int} (h1 : -2147483648 ≤ z) (h2 : z < 2147483648) : (i32 z).toInt64.toInt = z := by rw [tl_z]; exact i32_z h1 h2
theorem sstep {h H : Hp} {nv nf m lv k eb ec i j l : Nat} (hP : ProbR h nv nf m lv) (hc : CIM h nv m) (hk : k < 2147483648) (ho : okE eb ec) (hi : i < 9) (hj : j < gn eb) (hl : l < gn ec) (a : Int32) (hJ : JC h m eb ec k (i * (gn eb * gn ec) + j * gn ec + l) a H) : ∃ a' H', s_X3_search_l54 64 32 (nI k) a (i32 eb) (i32 ec) (i32 ((i : Int) - 4)) (i32 ((j : Int) - eb)) (i32 ((l : Int) - ec)) H = some (.inl (a', i32 ((l : Int) - ec) + 1, H')) ∧ JC h m eb ec k (i * (gn eb * gn ec) + j * gn ec + l + 1) a' H' := by
  obtain ⟨g1, g2, g3⟩ := g_at ho hi hj hl
  have hb : (eb ≤ 4 ∧ ec ≤ 4) := by unfold okE at ho; omega
  have hge : gn eb = 2 * eb + 1 := rfl
  have hge2 : gn ec = 2 * ec + 1 := rfl
  have hn9 : i * (gn eb * gn ec) + j * gn ec + l < 2000 := by
    unfold okE at ho; unfold gn at *
    rcases ho with ⟨rfl, rfl⟩ | ⟨rfl, rfl⟩ | ⟨rfl, rfl⟩ <;> simp only [Nat.reduceMul, Nat.reduceAdd] at hj hl ⊢ <;> omega
  generalize hn : i * (gn eb * gn ec) + j * gn ec + l = n at *
  obtain ⟨j1, j2, j3⟩ := hJ
  have hlen := gG_le h m eb ec n
  have hgs := gG_succ h m eb ec n
  unfold s_X3_search_l54 s_X3_search_b112
  rw [if_neg (by rw [lt_z, i32_z (by omega) (by omega), i32_z (by omega) (by omega)]; omega)]
  by_cases c : k < min (k + 1) (gG h m eb ec n).length
  · rw [j1, if_pos (nI_lt c (by omega)), lt_red]
    refine ⟨_, _, rfl, ?_, j2, ?_⟩
    · rw [hgs, List.length_append]; congr 1; omega
    · intro q hq
      apply j3 q
      rw [hgs, List.length_append, show min (k + 1) ((gG h m eb ec n).length + (if gM h m eb ec n = true then [n] else []).length) - 1 = k by omega, List.getElem?_append_left (by omega)] at hq
      rw [show min (k + 1) (gG h m eb ec n).length - 1 = k by omega]
      exact hq
  · have hle : (gG h m eb ec n).length ≤ k := by omega
    rw [j1, if_neg (by rw [nI_le_iff (by omega) (by omega)]; omega)]
    have hcH : CI H nv m (fF h) (mS h 66) (mD h 66) := CI.fr hc j2 (by simp) (by simp) (by simp) (by simp) (by simp) (by simp) (by simp)
    have e1 : (i32 ((i : Int) - 4)).toInt64.toInt = (i : Int) - 4 := i32_tl (by omega) (by omega)
    have e2 : (i32 ((j : Int) - eb)).toInt64.toInt = (j : Int) - eb := i32_tl (by omega) (by omega)
    have e3 : (i32 ((l : Int) - ec)).toInt64.toInt = (l : Int) - ec := i32_tl (by omega) (by omega)
    have e4 : (1 : Int64).toInt = 1 := by decide
    have hh := hold_z (R := 32) (a := (i32 ((i : Int) - 4)).toInt64) (b := (i32 ((j : Int) - eb)).toInt64) (c := (i32 ((l : Int) - ec)).toInt64) (t := 1) (B := 100) hcH.1.1 hcH.1.2.2 hcH.2.1 hP.rw (by omega) (by rw [e1]; omega) (by rw [e2]; omega) (by rw [e3]; omega) (by rw [e4]; omega) false
    rw [e1, e2, e3, e4, ← g1, ← g2, ← g3] at hh
    have hh2 : s_X7_hold 32 (i32 ((i : Int) - 4)).toInt64 (i32 ((j : Int) - eb)).toInt64 (i32 ((l : Int) - ec)).toInt64 1 0 H = some (bI (gM h m eb ec n)) := by
      rw [← g1, ← g2, ← g3]; exact hh
    rw [hh2, bnd_s]
    cases hM : gM h m eb ec n
    · rw [if_pos (by decide), lt_red]
      rw [hM, if_neg (by decide), List.append_nil] at hgs
      exact ⟨_, _, rfl, by rw [hgs], j2, by rw [hgs]; exact j3⟩
    · rw [if_neg (by decide), lt_red, li0, stI_n (by omega) (by omega), li1, stI_n (by omega) (by omega), li2, stI_n (by omega) (by omega), lt_red]
      rw [hM, if_pos rfl] at hgs
      have hlen2 : (gG h m eb ec (n + 1)).length = (gG h m eb ec n).length + 1 := by rw [hgs]; simp
      refine ⟨_, _, rfl, ?_, j2.tr ((Fr.sI (by simp)).tr ((Fr.sI (by simp)).tr (Fr.sI (by simp)))), fun q hq => ?_⟩
      · rw [hlen2, ← li1, nI_1]; congr 1; omega
      · rw [hlen2, show min (k + 1) ((gG h m eb ec n).length + 1) - 1 = (gG h m eb ec n).length by omega, hgs] at hq
        have : q = n := by simpa using hq.symm
        subst this
        rw [g1, g2, g3, show (64 + 1 : Nat) = 65 from rfl]
        refine ⟨?_, ?_, sI_same _ _ _ _⟩
        · rw [sI_ne (by omega), sI_ne (by omega), sI_same]
        · rw [sI_ne (by omega), sI_same]
theorem sum_b {j c : Nat} : (j + 1) * c = j * c + c := Nat.succ_mul j c
theorem search_b {h : Hp} {nv nf m lv k eb ec : Nat} (hP : ProbR h nv nf m lv) (hc : CIM h nv m) (hk : k < 2147483648) (ho : okE eb ec) : ∃ a h', s_X3_search_b25 64 32 (nI k) 0 (i32 eb) (i32 ec) h = some (a, h') ∧ JC h m eb ec k (9 * (gn eb * gn ec)) a h' := by
  have hb : (eb ≤ 4 ∧ ec ≤ 4) := by unfold okE at ho; omega
  have hend : ∀ e : Nat, e ≤ 4 → i32 e < i32 ((gn e : Int) - e) := fun e he => by
    unfold gn
    rw [lt_z, i32_z (by omega) (by omega), i32_z (by omega) (by omega)]; omega
  have hmid : ∀ e i : Nat, e ≤ 4 → i < gn e → ¬ i32 e < i32 ((i : Int) - e) := fun e i he hi => by
    unfold gn at hi
    rw [lt_z, i32_z (by omega) (by omega), i32_z (by omega) (by omega)]; omega
  have q4 : i32 ((4 : Nat) : Int) = (4 : Int32) := by decide
  have c4 : ((4 : Nat) : Int) = 4 := rfl
  have hend4 : (4 : Int32) < i32 ((gn 4 : Int) - 4) := by decide
  have hmid4 : ∀ i : Nat, i < gn 4 → ¬ (4 : Int32) < i32 ((i : Int) - 4) := fun i hi => by
    unfold gn at hi
    rw [lt_z, show (4 : Int32).toInt = 4 from by decide, i32_z (by omega) (by omega)]; omega
  unfold s_X3_search_b25
  have walk := walkH (f := fun s : Int32 × Int32 × Hp => s_X3_search_l31 64 32 (nI k) s.1 (i32 eb) (i32 ec) s.2.1 s.2.2) (e := 4) (by omega) (fun i a H => JC h m eb ec k (i * (gn eb * gn ec)) a H) (by
    intro i hi a H hJ
    have hi9 : i < 9 := hi
    dsimp only
    unfold s_X3_search_l31
    rw [c4, if_neg (hmid4 i hi), lt_red]
    obtain ⟨a1, H1, e1, J1⟩ := walkH (f := fun s : Int32 × Int32 × Hp => s_X3_search_l42 64 32 (nI k) s.1 (i32 eb) (i32 ec) (i32 ((i : Int) - 4)) s.2.1 s.2.2) (e := eb) hb.1 (fun j a H => JC h m eb ec k (i * (gn eb * gn ec) + j * gn ec) a H) (by
      intro j hj a H hJ
      dsimp only
      unfold s_X3_search_l42
      rw [if_neg (hmid eb j hb.1 hj), lt_red]
      obtain ⟨a2, H2, e2, J2⟩ := walkH (f := fun s : Int32 × Int32 × Hp => s_X3_search_l54 64 32 (nI k) s.1 (i32 eb) (i32 ec) (i32 ((i : Int) - 4)) (i32 ((j : Int) - eb)) s.2.1 s.2.2) (e := ec) hb.2 (fun l a H => JC h m eb ec k (i * (gn eb * gn ec) + j * gn ec + l) a H) (by
        intro l hl a H hJ
        exact sstep hP hc hk ho hi9 hj hl a hJ) (by
        intro a H
        dsimp only
        unfold s_X3_search_l54
        rw [if_pos (hend ec hb.2)]) a H hJ
      rw [e2, bnd_s, lt_red]
      exact ⟨a2, H2, rfl, by rw [sum_b, ← Nat.add_assoc]; exact J2⟩) (by
      intro a H
      dsimp only
      unfold s_X3_search_l42
      rw [if_pos (hend eb hb.1)]) a H (by rw [Nat.zero_mul, Nat.add_zero]; exact hJ)
    rw [show (-i32 (eb : Int)) = - i32 eb from rfl, e1, bnd_s, lt_red]
    exact ⟨a1, H1, rfl, by rw [sum_b]; exact J1⟩) (by
    intro a H
    dsimp only
    unfold s_X3_search_l31
    rw [c4, if_pos hend4]) 0 h ⟨by simp [gG]; rfl, Fr.rf, fun q hq => by simp [gG] at hq⟩
  obtain ⟨a, h', e, J⟩ := walk
  rw [show (-4 : Int32) = - i32 ((4 : Nat) : Int) from by decide, e, bnd_s]
  exact ⟨a, h', rfl, J⟩
def eB (nv : Nat) : Nat := if 1 < nv then 4 else 0
def eC (nv : Nat) : Nat := if 2 < nv then 4 else 0
theorem okE_nv (nv : Nat) : okE (eB nv) (eC nv) := by
  unfold okE eB eC
  by_cases a : 1 < nv <;> by_cases b : 2 < nv <;> simp [a, b]
  omega
abbrev gN (nv : Nat) : Nat := 9 * (gn (eB nv) * gn (eC nv))
theorem gN_le (nv : Nat) : gN nv ≤ 729 := by
  unfold gN gn eB eC
  by_cases a : 1 < nv <;> by_cases b : 2 < nv <;> simp [a, b]
theorem search_z {h : Hp} {nv nf m lv k : Nat} (hP : ProbR h nv nf m lv) (hc : CIM h nv m) (hk : k < 2147483648) : ∃ a h', s_X3_search 64 32 (nI nv) (nI k) h = some (a, h') ∧ JC h m (eB nv) (eC nv) k (gN nv) a h' := by
  have h3 := hP.1.2.2
  have hs := search_b hP hc hk (okE_nv nv)
  have w4 : i32 ((4 : Nat) : Int) = (4 : Int32) := by decide
  have w0 : i32 ((0 : Nat) : Int) = (0 : Int32) := by decide
  unfold s_X3_search s_X3_search_b13
  by_cases a : 1 < nv
  · rw [if_pos (show (1 : Int32) < nI nv from by rw [li1]; exact nI_lt a (by omega))]
    by_cases b : 2 < nv
    · rw [if_pos (show (2 : Int32) < nI nv from by rw [li2]; exact nI_lt b (by omega))]
      have e1 : eB nv = 4 := if_pos a
      have e2 : eC nv = 4 := if_pos b
      unfold gN
      rw [e1, e2] at hs ⊢
      first | rw [w4, w0] at hs | rw [w4] at hs | rw [w0] at hs
      exact hs
    · rw [if_neg (show ¬ (2 : Int32) < nI nv from by rw [li2]; exact nI_nlt (by omega) (by omega))]
      have e1 : eB nv = 4 := if_pos a
      have e2 : eC nv = 0 := if_neg b
      unfold gN
      rw [e1, e2] at hs ⊢
      first | rw [w4, w0] at hs | rw [w4] at hs | rw [w0] at hs
      exact hs
  · rw [if_neg (show ¬ (1 : Int32) < nI nv from by rw [li1]; exact nI_nlt (by omega) (by omega)), if_neg (show ¬ (2 : Int32) < nI nv from by rw [li2]; exact nI_nlt (by omega) (by omega))]
    have e1 : eB nv = 0 := if_neg a
    have e2 : eC nv = 0 := if_neg (by omega)
    unfold gN
    rw [e1, e2] at hs ⊢
    first | rw [w4, w0] at hs | rw [w4] at hs | rw [w0] at hs
    exact hs
/-- the model's walk -/
def JM (h : Hp) (m eb ec : Nat) (K : Option Nat) (n : Nat) (a : Int32) : Prop := a = nI (gG h m eb ec n).length ∧ ∀ k, K = some k → (gG h m eb ec n).length ≤ k
def enc (eb ec q : Nat) : Int := 81 * (ga eb ec q + 4) + 9 * (gb eb ec q + 4) + (gc eb ec q + 4)
def XM (h : Hp) (m eb ec : Nat) (K : Option Nat) (t : Int32) : Prop := ∃ k q, K = some k ∧ (gG h m eb ec (9 * (gn eb * gn ec)))[k]? = some q ∧ t = i32 (enc eb ec q)
def okW (K : Option Nat) (w : Int32) : Prop := (∃ k, K = some k ∧ w = nI k ∧ k < 2147483648) ∨ (K = none ∧ w = -9)
theorem mstep {h : Hp} {nq m eb ec i j l : Nat} {K : Option Nat} {w : Int32} (hM : MB h 66 nq m) (hW : okW K w) (ho : okE eb ec) (hi : i < 9) (hj : j < gn eb) (hl : l < gn ec) (a : Int32) (hJ : JM h m eb ec K (i * (gn eb * gn ec) + j * gn ec + l) a) : (∃ a', s_X10_wholeAt_l61 66 w (i32 eb) (i32 ec) a (i32 ((i : Int) - 4)) (i32 ((j : Int) - eb)) (i32 ((l : Int) - ec)) h = some (.inl (a', i32 ((l : Int) - ec) + 1)) ∧ JM h m eb ec K (i * (gn eb * gn ec) + j * gn ec + l + 1) a') ∨ (∃ t, s_X10_wholeAt_l61 66 w (i32 eb) (i32 ec) a (i32 ((i : Int) - 4)) (i32 ((j : Int) - eb)) (i32 ((l : Int) - ec)) h = some (.inr (.inr t)) ∧ XM h m eb ec K t) := by
  obtain ⟨g1, g2, g3⟩ := g_at ho hi hj hl
  have hb : (eb ≤ 4 ∧ ec ≤ 4) := by unfold okE at ho; omega
  have hge : gn eb = 2 * eb + 1 := rfl
  have hge2 : gn ec = 2 * ec + 1 := rfl
  have hn9 : i * (gn eb * gn ec) + j * gn ec + l < 2000 ∧ ∃ d, i * (gn eb * gn ec) + j * gn ec + l + 1 + d = 9 * (gn eb * gn ec) := by
    unfold okE at ho; unfold gn at *
    rcases ho with ⟨rfl, rfl⟩ | ⟨rfl, rfl⟩ | ⟨rfl, rfl⟩ <;> simp only [Nat.reduceMul, Nat.reduceAdd] at hj hl ⊢
    · exact ⟨by omega, 9 * 1 - (i * 1 + j * 1 + l + 1), by omega⟩
    · exact ⟨by omega, 9 * 9 - (i * 9 + j * 1 + l + 1), by omega⟩
    · exact ⟨by omega, 9 * 81 - (i * 81 + j * 9 + l + 1), by omega⟩
  obtain ⟨hn9, d, hd⟩ := hn9
  generalize hn : i * (gn eb * gn ec) + j * gn ec + l = n at *
  obtain ⟨j1, j2⟩ := hJ
  have hlen := gG_le h m eb ec n
  have hgs := gG_succ h m eb ec n
  unfold s_X10_wholeAt_l61 s_X10_wholeAt_b110
  have hh := meets_z hM (a := (i : Int) - 4) (b := (j : Int) - eb) (c := (l : Int) - ec) (by omega) (by omega) (by omega)
  have hh2 : s_X10_meets 66 (i32 ((i : Int) - 4)) (i32 ((j : Int) - eb)) (i32 ((l : Int) - ec)) h = some (bI (gM h m eb ec n)) := by
    rw [hh, ← g1, ← g2, ← g3]; rfl
  rw [if_neg (by rw [lt_z, i32_z (by omega) (by omega), i32_z (by omega) (by omega)]; omega), hh2, bnd_s]
  cases hg : gM h m eb ec n
  · rw [if_pos (by decide), lt_red]
    rw [hg, if_neg (by decide), List.append_nil] at hgs
    exact Or.inl ⟨_, rfl, by rw [hgs]; exact j1, by rw [hgs]; exact j2⟩
  · rw [if_neg (by decide)]
    have hget := gG_get hg d
    rw [hd] at hget
    rw [hg, if_pos rfl] at hgs
    have hlen2 : (gG h m eb ec (n + 1)).length = (gG h m eb ec n).length + 1 := by rw [hgs]; simp
    have goOn : (∀ k, K = some k → (gG h m eb ec n).length ≠ k) → JM h m eb ec K (n + 1) (a + 1) := fun hne => by
      refine ⟨by rw [j1, nI_1, hlen2], fun k hk => ?_⟩
      have := j2 k hk
      have := hne k hk
      rw [hlen2]; omega
    rcases hW with ⟨k, rfl, rfl, hk⟩ | ⟨rfl, rfl⟩
    · by_cases c : (gG h m eb ec n).length = k
      · rw [if_pos (by rw [j1, c])]
        refine Or.inr ⟨_, rfl, k, n, rfl, by rw [← c]; exact hget, ?_⟩
        unfold enc
        rw [g1, g2, g3, show (4 : Int32) = i32 4 from by decide, show (81 : Int32) = i32 81 from by decide, show (9 : Int32) = i32 9 from by decide, i32_add, i32_add, i32_mul, i32_mul, i32_add, i32_add, i32_add]
        congr 1; omega
      · rw [if_neg (by rw [j1, nI_eq (by omega) (by omega)]; exact c), lt_red, lt_red]
        exact Or.inl ⟨_, rfl, goOn (fun k' hk' => by cases hk'; exact c)⟩
    · rw [if_neg (by
        intro y
        rw [j1] at y
        have := eq_z.mp y
        rw [nI_z (by omega), show (-9 : Int32).toInt = -9 from by decide] at this
        omega), lt_red, lt_red]
      exact Or.inl ⟨_, rfl, goOn (fun k' hk' => by cases hk')⟩
theorem wholeAt_b {h : Hp} {nq m eb ec : Nat} {K : Option Nat} {w : Int32} (hM : MB h 66 nq m) (hW : okW K w) (ho : okE eb ec) : ∃ t, ((iter (fun s : Int32 × Int32 => s_X10_wholeAt_l41 66 w (i32 eb) (i32 ec) s.1 s.2 h) FUEL ((0 : Int32), (-4 : Int32))).bind (Sum.elim (fun t17 => some ((-t17) - (1 : Int32))) (fun t18 => some t18))) = some t ∧ (XM h m eb ec K t ∨ (∃ a, JM h m eb ec K (9 * (gn eb * gn ec)) a ∧ t = -a - 1)) := by
  have hb : (eb ≤ 4 ∧ ec ≤ 4) := by unfold okE at ho; omega
  have hend : ∀ e : Nat, e ≤ 4 → i32 e < i32 ((gn e : Int) - e) := fun e he => by
    unfold gn
    rw [lt_z, i32_z (by omega) (by omega), i32_z (by omega) (by omega)]; omega
  have hmid : ∀ e i : Nat, e ≤ 4 → i < gn e → ¬ i32 e < i32 ((i : Int) - e) := fun e i he hi => by
    unfold gn at hi
    rw [lt_z, i32_z (by omega) (by omega), i32_z (by omega) (by omega)]; omega
  have q4 : i32 ((4 : Nat) : Int) = (4 : Int32) := by decide
  have c4 : ((4 : Nat) : Int) = 4 := rfl
  have hend4 : (4 : Int32) < i32 ((gn 4 : Int) - 4) := by decide
  have hmid4 : ∀ i : Nat, i < gn 4 → ¬ (4 : Int32) < i32 ((i : Int) - 4) := fun i hi => by
    unfold gn at hi
    rw [lt_z, show (4 : Int32).toInt = 4 from by decide, i32_z (by omega) (by omega)]; omega
  have walk := walkE (f := fun s : Int32 × Int32 => s_X10_wholeAt_l41 66 w (i32 eb) (i32 ec) s.1 s.2 h) (e := 4) (by omega) (fun i a => JM h m eb ec K (i * (gn eb * gn ec)) a) (XM h m eb ec K) (by
    intro i hi a hJ
    have hi9 : i < 9 := hi
    dsimp only
    unfold s_X10_wholeAt_l41
    rw [c4, if_neg (hmid4 i hi), lt_red]
    have w2 := walkE (f := fun s : Int32 × Int32 => s_X10_wholeAt_l51 66 w (i32 eb) (i32 ec) s.1 (i32 ((i : Int) - 4)) s.2 h) (e := eb) hb.1 (fun j a => JM h m eb ec K (i * (gn eb * gn ec) + j * gn ec) a) (XM h m eb ec K) (by
      intro j hj a hJ
      dsimp only
      unfold s_X10_wholeAt_l51
      rw [if_neg (hmid eb j hb.1 hj), lt_red]
      have w3 := walkE (f := fun s : Int32 × Int32 => s_X10_wholeAt_l61 66 w (i32 eb) (i32 ec) s.1 (i32 ((i : Int) - 4)) (i32 ((j : Int) - eb)) s.2 h) (e := ec) hb.2 (fun l a => JM h m eb ec K (i * (gn eb * gn ec) + j * gn ec + l) a) (XM h m eb ec K) (by
        intro l hl a hJ
        exact mstep hM hW ho hi9 hj hl a hJ) (by
        intro a
        dsimp only
        unfold s_X10_wholeAt_l61
        rw [if_pos (hend ec hb.2)]) a hJ
      rcases w3 with ⟨a', e, J⟩ | ⟨t, e, J⟩
      · rw [e, bnd_s]
        exact Or.inl ⟨a', rfl, by rw [sum_b, ← Nat.add_assoc]; exact J⟩
      · rw [e, bnd_s]
        exact Or.inr ⟨t, rfl, J⟩) (by
      intro a
      dsimp only
      unfold s_X10_wholeAt_l51
      rw [if_pos (hend eb hb.1)]) a (by rw [Nat.zero_mul, Nat.add_zero]; exact hJ)
    rcases w2 with ⟨a', e, J⟩ | ⟨t, e, J⟩
    · rw [e, bnd_s]
      exact Or.inl ⟨a', rfl, by rw [sum_b]; exact J⟩
    · rw [e, bnd_s]
      exact Or.inr ⟨t, rfl, J⟩) (by
    intro a
    dsimp only
    unfold s_X10_wholeAt_l41
    rw [c4, if_pos hend4]) 0 ⟨by simp [gG]; rfl, fun k _ => by simp [gG]⟩
  rw [show (-4 : Int32) = - i32 ((4 : Nat) : Int) from by decide]
  rcases walk with ⟨a', e, J⟩ | ⟨t, e, J⟩
  · rw [e, bnd_s]
    exact ⟨_, rfl, Or.inr ⟨a', J, rfl⟩⟩
  · rw [e, bnd_s]
    exact ⟨_, rfl, Or.inl J⟩
theorem wholeAt_z {h : Hp} {nv nf m lv : Nat} {K : Option Nat} {w : Int32} (hP : ProbR h nv nf m lv) (hW : okW K w) : ∃ t, s_X10_wholeAt 66 w h = some t ∧ (XM h m (eB nv) (eC nv) K t ∨ (∃ a, JM h m (eB nv) (eC nv) K (gN nv) a ∧ t = -a - 1)) := by
  have h3 := hP.1.2.2
  have hs := wholeAt_b hP.2.2.2.1.2.1 hW (okE_nv nv)
  have w4 : i32 ((4 : Nat) : Int) = (4 : Int32) := by decide
  have w0 : i32 ((0 : Nat) : Int) = (0 : Int32) := by decide
  unfold s_X10_wholeAt s_X10_wholeAt_b13 s_X10_wholeAt_b30 s_X10_edge
  rw [hP.1.2.1]
  by_cases a : 1 < nv
  · rw [if_pos (show (1 : Int32) < nI nv from by rw [li1]; exact nI_lt a (by omega)), if_neg (by decide), bnd_s]
    by_cases b : 2 < nv
    · rw [if_pos (show (2 : Int32) < nI nv from by rw [li2]; exact nI_lt b (by omega)), bnd_s]
      have e1 : eB nv = 4 := if_pos a
      have e2 : eC nv = 4 := if_pos b
      unfold gN
      rw [e1, e2] at hs ⊢
      first | rw [w4, w0] at hs | rw [w4] at hs | rw [w0] at hs
      exact hs
    · rw [if_neg (show ¬ (2 : Int32) < nI nv from by rw [li2]; exact nI_nlt (by omega) (by omega)), if_pos (by decide), bnd_s]
      have e1 : eB nv = 4 := if_pos a
      have e2 : eC nv = 0 := if_neg b
      unfold gN
      rw [e1, e2] at hs ⊢
      first | rw [w4, w0] at hs | rw [w4] at hs | rw [w0] at hs
      exact hs
  · rw [if_neg (show ¬ (1 : Int32) < nI nv from by rw [li1]; exact nI_nlt (by omega) (by omega)), if_pos (by decide), bnd_s, if_neg (show ¬ (2 : Int32) < nI nv from by rw [li2]; exact nI_nlt (by omega) (by omega)), bnd_s]
    have e1 : eB nv = 0 := if_neg a
    have e2 : eC nv = 0 := if_neg (by omega)
    unfold gN
    rw [e1, e2] at hs ⊢
    first | rw [w4, w0] at hs | rw [w4] at hs | rw [w0] at hs
    exact hs
