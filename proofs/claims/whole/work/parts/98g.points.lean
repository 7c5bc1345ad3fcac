/-! points in their order; lists of them -/
abbrev P3 : Type := Rat × Rat × Rat
def ltp (p q : P3) : Prop := p.1 < q.1 ∨ (p.1 = q.1 ∧ (p.2.1 < q.2.1 ∨ (p.2.1 = q.2.1 ∧ p.2.2 < q.2.2)))
theorem ltp_irr (p : P3) : ¬ ltp p p := by unfold ltp; grind
theorem ltp_tr {p q r : P3} (h1 : ltp p q) (h2 : ltp q r) : ltp p r := by unfold ltp at *; grind
theorem ltp_tri (p q : P3) : ltp p q ∨ p = q ∨ ltp q p := by
  unfold ltp
  by_cases a : p.1 < q.1
  · exact Or.inl (Or.inl a)
  · by_cases b : q.1 < p.1
    · exact Or.inr (Or.inr (Or.inl b))
    · have e1 : p.1 = q.1 := by grind
      by_cases c : p.2.1 < q.2.1
      · exact Or.inl (Or.inr ⟨e1, Or.inl c⟩)
      · by_cases d : q.2.1 < p.2.1
        · exact Or.inr (Or.inr (Or.inr ⟨e1.symm, Or.inl d⟩))
        · have e2 : p.2.1 = q.2.1 := by grind
          by_cases e : p.2.2 < q.2.2
          · exact Or.inl (Or.inr ⟨e1, Or.inr ⟨e2, e⟩⟩)
          · by_cases f : q.2.2 < p.2.2
            · exact Or.inr (Or.inr (Or.inr ⟨e1.symm, Or.inr ⟨e2.symm, f⟩⟩))
            · have e3 : p.2.2 = q.2.2 := by grind
              exact Or.inr (Or.inl (Prod.ext e1 (Prod.ext e2 e3)))
theorem sorted_unique : ∀ (L L' : List P3), L.Pairwise ltp → L'.Pairwise ltp → (∀ x, x ∈ L ↔ x ∈ L') → L = L'
  | [], L', _, _, h => by
    cases L' with
    | nil => rfl
    | cons b t => exact absurd ((h b).mpr (by simp)) (by simp)
  | a :: t, L', h1, h2, h => by
    cases L' with
    | nil => exact absurd ((h a).mp (by simp)) (by simp)
    | cons b t' =>
      obtain ⟨a1, a2⟩ := List.pairwise_cons.mp h1
      obtain ⟨b1, b2⟩ := List.pairwise_cons.mp h2
      have e : a = b := by
        rcases List.mem_cons.mp ((h a).mp (by simp)) with q | q
        · exact q
        · rcases List.mem_cons.mp ((h b).mpr (by simp)) with r | r
          · exact r.symm
          · exact absurd (ltp_tr (a1 b r) (b1 a q)) (ltp_irr a)
      subst e
      congr 1
      refine sorted_unique t t' a2 b2 (fun x => ⟨fun hx => ?_, fun hx => ?_⟩)
      · rcases List.mem_cons.mp ((h x).mp (by simp [hx])) with q | q
        · subst q; exact absurd (a1 x hx) (ltp_irr x)
        · exact q
      · rcases List.mem_cons.mp ((h x).mpr (by simp [hx])) with q | q
        · subst q; exact absurd (b1 x hx) (ltp_irr x)
        · exact q
/-- a point comes into its place -/
theorem ins_sorted {L : List P3} {p : P3} {q : Nat} (hS : L.Pairwise ltp) (hq : q ≤ L.length) (h1 : ∀ k (hk : k < L.length), k < q → ltp L[k] p) (h2 : ∀ k (hk : k < L.length), q ≤ k → ltp p L[k]) : (L.take q ++ p :: L.drop q).Pairwise ltp := by
  rw [List.pairwise_append]
  refine ⟨hS.sublist (List.take_sublist _ _), ?_, fun x hx y hy => ?_⟩
  · rw [List.pairwise_cons]
    refine ⟨fun y hy => ?_, hS.sublist (List.drop_sublist _ _)⟩
    obtain ⟨j, hj, rfl⟩ := List.getElem_of_mem hy
    rw [List.getElem_drop]
    exact h2 _ _ (by omega)
  · obtain ⟨i, hi, rfl⟩ := List.getElem_of_mem hx
    have hi2 : i < q := by rw [List.length_take] at hi; omega
    rw [List.getElem_take]
    have lp := h1 i (by omega) hi2
    rcases List.mem_cons.mp hy with rfl | hy
    · exact lp
    · obtain ⟨j, hj, rfl⟩ := List.getElem_of_mem hy
      rw [List.getElem_drop]
      exact ltp_tr lp (h2 _ _ (by omega))
theorem ins_mem {L : List P3} {p x : P3} {q : Nat} : x ∈ L.take q ++ p :: L.drop q ↔ x ∈ L ∨ x = p := by
  rw [List.mem_append, List.mem_cons]
  have : x ∈ L ↔ x ∈ L.take q ∨ x ∈ L.drop q := by rw [← List.mem_append, List.take_append_drop]
  rw [this]
  constructor
  · rintro (a | a | a)
    · exact Or.inl (Or.inl a)
    · exact Or.inr a
    · exact Or.inl (Or.inr a)
  · rintro ((a | a) | a)
    · exact Or.inl a
    · exact Or.inr (Or.inr a)
    · exact Or.inr (Or.inl a)
theorem ins_get {L : List P3} {p : P3} {q : Nat} (hq : q ≤ L.length) : ∀ k (hk : k < (L.take q ++ p :: L.drop q).length), (∀ (h : k < q), (L.take q ++ p :: L.drop q)[k] = L[k]'(by omega)) ∧ (k = q → (L.take q ++ p :: L.drop q)[k] = p) ∧ (∀ (h : q < k), (L.take q ++ p :: L.drop q)[k] = L[k - 1]'(by rw [List.length_append, List.length_cons, List.length_take, List.length_drop] at hk; omega)) := by
  intro k hk
  have ht : (L.take q).length = q := by rw [List.length_take]; omega
  refine ⟨fun h => ?_, fun h => ?_, fun h => ?_⟩
  · rw [List.getElem_append_left (by omega), List.getElem_take]
  · rw [List.getElem_append_right (by omega)]
    simp [ht, h]
  · rw [List.getElem_append_right (by omega)]
    have : k - (L.take q).length = (k - 1 - q) + 1 := by omega
    simp only [this, List.getElem_cons_succ, List.getElem_drop]
    congr 1
    omega
theorem ins_len {L : List P3} {p : P3} {q : Nat} (hq : q ≤ L.length) : (L.take q ++ p :: L.drop q).length = L.length + 1 := by
  rw [List.length_append, List.length_cons, List.length_take, List.length_drop]; omega
def mkp (a b c d : Int) : P3 := ((a : Rat) / (d : Rat), (b : Rat) / (d : Rat), (c : Rat) / (d : Rat))
theorem frac_lt {a b c d : Int} (hb : 0 < b) (hd : 0 < d) : (a : Rat) / (b : Rat) < (c : Rat) / (d : Rat) ↔ a * d < c * b := by
  have b1 : (0 : Rat) < (b : Rat) := by exact_mod_cast hb
  have d1 : (0 : Rat) < (d : Rat) := by exact_mod_cast hd
  have e1 : (a : Rat) / (b : Rat) * (b : Rat) = (a : Rat) := Rat.div_mul_cancel (by grind)
  have e2 : (c : Rat) / (d : Rat) * (d : Rat) = (c : Rat) := Rat.div_mul_cancel (by grind)
  generalize (a : Rat) / (b : Rat) = x at *
  generalize (c : Rat) / (d : Rat) = y at *
  have bd := Rat.mul_pos b1 d1
  have k : a * d < c * b ↔ (a : Rat) * (d : Rat) < (c : Rat) * (b : Rat) := by
    constructor
    · intro z; exact_mod_cast z
    · intro z; exact_mod_cast z
  rw [k, ← e1, ← e2]
  constructor
  · intro z
    have := Rat.mul_pos bd (show 0 < y - x by grind)
    grind
  · intro z
    have := pos_of bd (x := y - x) (by grind)
    grind
theorem frac_eq2 {a b c d : Int} (hb : 0 < b) (hd : 0 < d) : (a : Rat) / (b : Rat) = (c : Rat) / (d : Rat) ↔ a * d = c * b := by
  constructor
  · exact frac_eq hb hd
  · intro h
    have h1 : ¬ (a : Rat) / (b : Rat) < (c : Rat) / (d : Rat) := fun q => by have := (frac_lt hb hd).mp q; omega
    have h2 : ¬ (c : Rat) / (d : Rat) < (a : Rat) / (b : Rat) := fun q => by have := (frac_lt hd hb).mp q; omega
    grind
theorem ltp_mk {a b c d a' b' c' d' : Int} (hd : 0 < d) (hd' : 0 < d') : ltp (mkp a b c d) (mkp a' b' c' d') ↔ (a * d' < a' * d ∨ (a * d' = a' * d ∧ (b * d' < b' * d ∨ (b * d' = b' * d ∧ c * d' < c' * d)))) := by
  unfold ltp mkp
  rw [frac_lt hd hd', frac_eq2 hd hd', frac_lt hd hd', frac_eq2 hd hd', frac_lt hd hd']
theorem eq3_mk {a b c d a' b' c' d' : Int} (hd : 0 < d) (hd' : 0 < d') : mkp a b c d = mkp a' b' c' d' ↔ (a * d' = a' * d ∧ b * d' = b' * d ∧ c * d' = c' * d) := by
  unfold mkp
  rw [Prod.mk.injEq, Prod.mk.injEq, frac_eq2 hd hd', frac_eq2 hd hd', frac_eq2 hd hd']
/-- three by three comparisons -/
def cmp3 (new old : P3) (r : Int32) : Prop := (r = -1 ∧ ltp new old) ∨ (r = 0 ∧ new = old) ∨ (r = 1 ∧ ltp old new)
/-! the class's list of corners -/
def QB (a b c d : Int64) : Prop := (-1000000 ≤ a.toInt ∧ a.toInt ≤ 1000000) ∧ (-1000000 ≤ b.toInt ∧ b.toInt ≤ 1000000) ∧ (-1000000 ≤ c.toInt ∧ c.toInt ≤ 1000000) ∧ (0 < d.toInt ∧ d.toInt ≤ 1000000)
def q4 (a b c d : Int64) : P3 := mkp a.toInt b.toInt c.toInt d.toInt
def CL (H : Hp) (L : List P3) : Prop := H.1 55 0 = nI L.length ∧ L.length ≤ 120 ∧ L.Pairwise ltp ∧ ∀ k (hk : k < L.length), QB (H.2 56 (3 * k)) (H.2 56 (3 * k + 1)) (H.2 56 (3 * k + 2)) (H.2 57 k) ∧ L[k] = q4 (H.2 56 (3 * k)) (H.2 56 (3 * k + 1)) (H.2 56 (3 * k + 2)) (H.2 57 k)
def NewP (H : Hp) (p : P3) : Prop := QB (H.2 63 0) (H.2 63 1) (H.2 63 2) (H.2 55 5) ∧ p = q4 (H.2 63 0) (H.2 63 1) (H.2 63 2) (H.2 55 5)
theorem cmpl_z (x y : Int64) (h : Hp) : ∃ r, s_J13_compare_74951 x y h = some r ∧ ((r = -1 ∧ x.toInt < y.toInt) ∨ (r = 0 ∧ x.toInt = y.toInt) ∨ (r = 1 ∧ y.toInt < x.toInt)) := by
  unfold s_J13_compare_74951
  by_cases c : x < y
  · rw [if_pos c]; exact ⟨_, rfl, Or.inl ⟨rfl, ltl_z.mp c⟩⟩
  · rw [if_neg c]
    by_cases d : x = y
    · rw [if_pos d]; exact ⟨_, rfl, Or.inr (Or.inl ⟨rfl, by rw [d]⟩)⟩
    · rw [if_neg d]
      refine ⟨_, rfl, Or.inr (Or.inr ⟨rfl, ?_⟩)⟩
      have h1 : ¬ x.toInt < y.toInt := fun q => c (ltl_z.mpr q)
      have h2 : ¬ x.toInt = y.toInt := fun q => d (eql_z.mpr q)
      omega
theorem mulm {a b : Int64} (ha : -1000000 ≤ a.toInt ∧ a.toInt ≤ 1000000) (hb : -1000000 ≤ b.toInt ∧ b.toInt ≤ 1000000) : (a * b).toInt = a.toInt * b.toInt ∧ -1000000000000 ≤ a.toInt * b.toInt ∧ a.toInt * b.toInt ≤ 1000000000000 := by
  have m := mulb (A := 1000000) (B := 1000000) ha.1 ha.2 hb.1 hb.2
  exact ⟨mull_z (by omega) (by omega), by omega, by omega⟩
theorem compareWith_z {H : Hp} {L : List P3} {p : P3} (hC : CL H L) (hN : NewP H p) {k : Nat} (hk : k < L.length) : ∃ r, s_X2_compareWith 55 (nI k) H = some r ∧ cmp3 p L[k] r := by
  obtain ⟨c1, c2, c3, c4⟩ := hC
  obtain ⟨qb, ql⟩ := c4 k hk
  obtain ⟨n1, n2⟩ := hN
  obtain ⟨a0, a1, a2, a3⟩ := qb
  obtain ⟨b0, b1, b2, b3⟩ := n1
  have a3' : -1000000 ≤ (H.2 57 k).toInt ∧ (H.2 57 k).toInt ≤ 1000000 := by omega
  have b3' : -1000000 ≤ (H.2 55 5).toInt ∧ (H.2 55 5).toInt ≤ 1000000 := by omega
  rw [ql, n2]
  unfold q4 cmp3
  rw [ltp_mk b3.1 a3.1, ltp_mk a3.1 b3.1, eq3_mk b3.1 a3.1]
  unfold s_X2_compareWith
  -- one step of the comparison
  have step : ∀ v, v < 3 → (∀ u w : Int64, u = H.2 63 v → w = H.2 56 (3 * k + v) → (-1000000 ≤ u.toInt ∧ u.toInt ≤ 1000000) → (-1000000 ≤ w.toInt ∧ w.toInt ≤ 1000000) → ∃ r, ((r = -1 ∧ u.toInt * (H.2 57 k).toInt < w.toInt * (H.2 55 5).toInt) ∨ (r = 0 ∧ u.toInt * (H.2 57 k).toInt = w.toInt * (H.2 55 5).toInt) ∨ (r = 1 ∧ w.toInt * (H.2 55 5).toInt < u.toInt * (H.2 57 k).toInt)) ∧ s_X2_compareWith_l2 55 (nI k) (nI v) H = if r = 0 then some (.inl (nI (v + 1))) else some (.inr (.inr r))) := fun v hv u w hu hw bu bw => by
    unfold s_X2_compareWith_l2
    rw [if_pos (nI_ltn hv (by omega) (by decide)), show (55 + 8 : Nat) = 63 from rfl, show (55 + 2 : Nat) = 57 from rfl, show (55 + 1 : Nat) = 56 from rfl, ldJ_n (by omega) (by omega), ldJ_n (by omega) (by omega), ix3, ldJ_n (by omega) (by omega), ← hu, ← hw]
    obtain ⟨r, e, hr⟩ := cmpl_z (u * H.2 57 k) (w * H.2 55 5) H
    rw [(mulm bu a3').1, (mulm bw b3').1] at hr
    refine ⟨r, hr, ?_⟩
    rw [e, bnd_s, lt_red, nI_1]
  obtain ⟨r0, s0, e0⟩ := step 0 (by omega) _ _ rfl rfl b0 a0
  obtain ⟨r1, s1, e1⟩ := step 1 (by omega) _ _ rfl rfl b1 a1
  obtain ⟨r2, s2, e2⟩ := step 2 (by omega) _ _ rfl rfl b2 a2
  rw [Nat.mul_comm] at s0 s1 s2 ⊢
  obtain ⟨e, he, hp⟩ := iter_fuel (f := fun s : Int32 => s_X2_compareWith_l2 55 (nI k) s H)
    (fun z => z = nI 0 ∨ (z = nI 1 ∧ r0 = 0) ∨ (z = nI 2 ∧ r0 = 0 ∧ r1 = 0) ∨ (z = nI 3 ∧ r0 = 0 ∧ r1 = 0 ∧ r2 = 0))
    (fun z => 20 - z.toNatClampNeg)
    (fun e => (e = .inl () ∧ r0 = 0 ∧ r1 = 0 ∧ r2 = 0) ∨ (∃ r, e = .inr r ∧ ((r = r0 ∧ r0 ≠ 0) ∨ (r = r1 ∧ r0 = 0 ∧ r1 ≠ 0) ∨ (r = r2 ∧ r0 = 0 ∧ r1 = 0 ∧ r2 ≠ 0)))) (by
    rintro z (rfl | ⟨rfl, z0⟩ | ⟨rfl, z0, z1⟩ | ⟨rfl, z0, z1, z2⟩)
    · rw [e0]
      by_cases c : r0 = 0
      · rw [if_pos c]; exact Or.inl ⟨_, rfl, Or.inr (Or.inl ⟨rfl, c⟩), by decide⟩
      · rw [if_neg c]; exact Or.inr ⟨_, rfl, Or.inr ⟨r0, rfl, Or.inl ⟨rfl, c⟩⟩⟩
    · rw [e1]
      by_cases c : r1 = 0
      · rw [if_pos c]; exact Or.inl ⟨_, rfl, Or.inr (Or.inr (Or.inl ⟨rfl, z0, c⟩)), by decide⟩
      · rw [if_neg c]; exact Or.inr ⟨_, rfl, Or.inr ⟨r1, rfl, Or.inr (Or.inl ⟨rfl, z0, c⟩)⟩⟩
    · rw [e2]
      by_cases c : r2 = 0
      · rw [if_pos c]; exact Or.inl ⟨_, rfl, Or.inr (Or.inr (Or.inr ⟨rfl, z0, z1, c⟩)), by decide⟩
      · rw [if_neg c]; exact Or.inr ⟨_, rfl, Or.inr ⟨r2, rfl, Or.inr (Or.inr ⟨rfl, z0, z1, c⟩)⟩⟩
    · unfold s_X2_compareWith_l2
      rw [if_neg (nI_nltn (by decide))]
      exact Or.inr ⟨_, rfl, Or.inl ⟨rfl, z0, z1, z2⟩⟩)
    (nI 0) (Or.inl rfl) (by decide)
  rw [li0, he, bnd_s]
  have nz : ∀ {r : Int32} {P Q R : Prop}, ((r = -1 ∧ P) ∨ (r = 0 ∧ Q) ∨ (r = 1 ∧ R)) → r = 0 → Q := fun h hz => by
    rcases h with ⟨h, -⟩ | ⟨-, h⟩ | ⟨h, -⟩
    · rw [hz] at h; exact absurd h (by decide)
    · exact h
    · rw [hz] at h; exact absurd h (by decide)
  rcases hp with ⟨rfl, z0, z1, z2⟩ | ⟨r, rfl, ⟨rfl, z⟩ | ⟨rfl, z0, z⟩ | ⟨rfl, z0, z1, z⟩⟩
  · exact ⟨0, rfl, Or.inr (Or.inl ⟨rfl, by have := nz s0 z0; exact this, nz s1 z1, nz s2 z2⟩)⟩
  · refine ⟨r, rfl, ?_⟩
    rcases s0 with ⟨y, w⟩ | ⟨y, w⟩ | ⟨y, w⟩
    · exact Or.inl ⟨y, Or.inl w⟩
    · exact absurd y z
    · exact Or.inr (Or.inr ⟨y, Or.inl w⟩)
  · refine ⟨r, rfl, ?_⟩
    have q0 := nz s0 z0
    rcases s1 with ⟨y, w⟩ | ⟨y, w⟩ | ⟨y, w⟩
    · exact Or.inl ⟨y, Or.inr ⟨q0, Or.inl w⟩⟩
    · exact absurd y z
    · exact Or.inr (Or.inr ⟨y, Or.inr ⟨q0.symm, Or.inl w⟩⟩)
  · refine ⟨r, rfl, ?_⟩
    have q0 := nz s0 z0
    have q1 := nz s1 z1
    rcases s2 with ⟨y, w⟩ | ⟨y, w⟩ | ⟨y, w⟩
    · exact Or.inl ⟨y, Or.inr ⟨q0, Or.inr ⟨q1, w⟩⟩⟩
    · exact absurd y z
    · exact Or.inr (Or.inr ⟨y, Or.inr ⟨q0.symm, Or.inr ⟨q1.symm, w⟩⟩⟩)
