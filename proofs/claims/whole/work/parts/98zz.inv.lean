/-! the relation of class and model, and the 28 steps -/
theorem CIM.fr {h H : Hp} {nv nf m : Nat} {S ks : List Nat} (hM : MB h 66 nf m) (hc : CIM h nv m) (f : Fr S h H) (K : FrK 66 ks h H) (h3 : 3 ∉ ks) (hS : ∀ c ∈ S, c ∉ [67, 68, 32, 33, 34, 35, 36, 39, 40]) : CIM H nv m := by
  have z : ∀ c, c ∈ [67, 68, 32, 33, 34, 35, 36, 39, 40] → c ∉ S := fun c hc q => hS c q hc
  obtain ⟨-, g1, g2, g3, g4⟩ := hM.fr f K h3 (z 67 (by simp)) (z 68 (by simp))
  show CI H nv m (fun i => mK H 66 (mG H 66 i)) (mS H 66) (mD H 66)
  rw [g1, g2, g3, g4]
  exact CI.fr hc f (z 32 (by simp)) (z 33 (by simp)) (z 34 (by simp)) (z 35 (by simp)) (z 36 (by simp)) (z 39 (by simp)) (z 40 (by simp))
def TI (h : Hp) : Prop := h.2 0 14 = h.2 66 36
def PI (h : Hp) : Prop := ∃ nv nf m lv, 1 ≤ nv ∧ ProbR h nv nf m lv ∧ CIM h nv m
def Inv (h : Hp) : Prop := TextI h ∧ PI h ∧ SavI h ∧ Res2 h ∧ TI h
theorem Res2.fr {h H : Hp} {k0 ks : List Nat} (r : Res2 h) (K0 : FrK 0 k0 h H) (K : FrK 66 ks h H) (h12 : 12 ∉ k0) (h13 : 13 ∉ k0) (h34 : 34 ∉ ks) (h35 : 35 ∉ ks) : Res2 H := by
  unfold Res2
  rw [(K0 12 h12).2, (K0 13 h13).2, (K 34 h34).2, (K 35 h35).2]; exact r
theorem TI.fr {h H : Hp} {k0 ks : List Nat} (r : TI h) (K0 : FrK 0 k0 h H) (K : FrK 66 ks h H) (h14 : 14 ∉ k0) (h36 : 36 ∉ ks) : TI H := by
  unfold TI
  rw [(K0 14 h14).2, (K 36 h36).2]; exact r
/-- acts that leave text, problem, saved states and results alone -/
theorem Inv.fr {h H : Hp} {S ks : List Nat} (I : Inv h) (f : Fr S h H) (K : FrK 66 ks h H) (hS : ∀ c ∈ S, c ∉ [0, 27, 28, 89, 1, 2, 3, 4, 5, 6, 67, 68, 69, 32, 33, 34, 35, 36, 39, 40] ∧ (c < 14 ∨ 26 < c) ∧ c ≠ 70 ∧ c ≠ 71) (hk : ∀ c ∈ ks, c ∉ [0, 1, 3, 5, 34, 35, 36, 43]) : Inv H := by
  obtain ⟨t, ⟨nv, nf, m, lv, n1, p, c⟩, s, r, o⟩ := I
  have z : ∀ c, c ∈ [0, 27, 28, 89, 1, 2, 3, 4, 5, 6, 67, 68, 69, 32, 33, 34, 35, 36, 39, 40] → c ∉ S := fun c hc q => (hS c q).1 hc
  have zk : ∀ c, c ∈ [0, 1, 3, 5, 34, 35, 36, 43] → c ∉ ks := fun c hc q => hk c q hc
  have K0 : FrK 0 [] h H := FrK.of f (z 0 (by simp))
  obtain ⟨p', c'⟩ := PC.fr p c f K (fun c hc q => (hS c hc).1 (by simp at q ⊢; omega)) (fun c hc q => hk c hc (by simp at q ⊢; omega))
  exact ⟨t.fr f K (z 27 (by simp)) (z 28 (by simp)) (z 89 (by simp)) (zk 43 (by simp)), ⟨nv, nf, m, lv, n1, p', c'⟩, s.fr f (fun c hc => (hS c hc).2), r.fr K0 K (by simp) (by simp) (zk 34 (by simp)) (zk 35 (by simp)), o.fr K0 K (by simp) (zk 36 (by simp))⟩
theorem inv0 : Inv hp0 := by
  refine ⟨⟨0, by omega, rfl, rfl, fun i hi => by omega⟩, ⟨2, 0, 0, 0, by omega, ⟨⟨rfl, rfl, by omega⟩, ⟨rfl, rfl, by omega, fun j hj => by omega⟩, fun g hg => by omega, ⟨rfl, ⟨rfl, ⟨by omega, by omega⟩, fun g v hg => by omega, fun k hk => by omega⟩, fun k hk => by omega⟩, ⟨rfl, rfl, by omega, fun _ => 0, fun k hk => by omega, fun i j _ hj => by omega⟩⟩, ⟨⟨rfl, rfl, by omega⟩, fun i hi => by omega, fun _ => 0, fun _ => 0, ⟨fun k hk => ?_, fun i hi => absurd hi (Nat.not_lt_zero _), fun k hk b => ?_⟩, fun _ _ _ _ => Nat.le_refl _, fun k => ⟨Or.inl rfl, Or.inl rfl⟩⟩⟩, fun i hi => Or.inl ⟨rfl, rfl⟩, ⟨rfl, rfl⟩, rfl⟩
  · have : k = 0 := by omega
    subst this
    exact ⟨rfl, by simp [BB], Nat.le_refl _⟩
  · have : k = 0 := by omega
    subst this
    constructor
    · rintro ⟨q1, q2⟩
      have : b = 0 := by simp at q1; exact q1
      subst this
      obtain ⟨-, g, hg, -⟩ := q2
      have e : bl 0 12 = [] := by simp [bl]
      rw [e] at hg
      cases hg
    · rintro ⟨i, hi, -⟩; exact absurd hi (Nat.not_lt_zero _)
theorem st_0 : St_0 Inv := fun h I a1 => by
  obtain ⟨t, ⟨nv, nf, m, lv, n1, p, c⟩, s, r, o⟩ := I
  obtain ⟨x, h1, h2, e1, e2, t2, f, -, k⟩ := type_step t a1
  obtain ⟨p', c'⟩ := PC.fr p c f k (by simp) (by simp)
  exact ⟨x, h1, h2, e1, e2, t2, ⟨nv, nf, m, lv, n1, p', c'⟩, s.fr f (by simp), r.fr (FrK.of f (by simp) (ks := [])) k (by simp) (by simp) (by simp) (by simp), o.fr (FrK.of f (by simp) (ks := [])) k (by simp) (by simp)⟩
theorem st_1 : St_1 Inv := fun h I => by
  obtain ⟨t, ⟨nv, nf, m, lv, n1, p, c⟩, s, r, o⟩ := I
  obtain ⟨x, h1, h2, e1, e2, t2, f, -, k⟩ := clear_step t
  obtain ⟨p', c'⟩ := PC.fr p c f k (by simp) (by simp)
  exact ⟨x, h1, h2, e1, e2, t2, ⟨nv, nf, m, lv, n1, p', c'⟩, s.fr f (by simp), r.fr (FrK.of f (by simp) (ks := [])) k (by simp) (by simp) (by simp) (by simp), o.fr (FrK.of f (by simp) (ks := [])) k (by simp) (by simp)⟩
theorem st_2 : St_2 Inv := fun h I => by
  obtain ⟨t, ⟨nv, nf, m, lv, n1, p, c⟩, s, r, o⟩ := I
  obtain ⟨x, h1, h2, e1, e2, t2, s2, p2, f, k⟩ := tells_step t p n1 c s
  exact ⟨x, h1, h2, e1, e2, t2, p2, s2, r.fr (FrK.of f (by simp [telc, probc, rowc]) (ks := [])) k (by simp) (by simp) (by simp [telK]) (by simp [telK]), o.fr (FrK.of f (by simp [telc, probc, rowc]) (ks := [])) k (by simp) (by simp [telK])⟩
theorem st_3 : St_3 Inv := fun h I a1 a2 a3 => by
  obtain ⟨t, ⟨nv, nf, m, lv, n1, p, c⟩, s, r, o⟩ := I
  obtain ⟨x, h1, h2, e1, e2, ⟨nf', p2⟩, f, -, k, mo⟩ := form_step p a1 a2 a3
  have e68 : h2.1 68 = h.1 68 := (f 68 (by simp)).1
  have eG : mG h2 66 = mG h 66 := by funext k; unfold mG; show (h2.1 68 _).toInt.toNat = (h.1 68 _).toInt.toNat; rw [e68]
  have eS : mS h2 66 = mS h 66 := by funext k; unfold mS; show (h2.1 68 _).toInt.toNat = (h.1 68 _).toInt.toNat; rw [e68]
  have eD : mD h2 66 = mD h 66 := by funext k; unfold mD; show (h2.1 68 _).toInt = (h.1 68 _).toInt; rw [e68]
  have c1 : CI h2 nv m (fF h) (mS h 66) (mD h 66) := CI.fr c f (by simp) (by simp) (by simp) (by simp) (by simp) (by simp) (by simp)
  have c2 : CIM h2 nv m := by
    obtain ⟨d1, d2, d3⟩ := c1
    refine ⟨d1, fun i hi => ?_, d3⟩
    obtain ⟨r1, r2⟩ := d2 i hi
    have gi := (p.2.2.2.1.2.1.2.2.2 i hi).1.2
    rw [eS, eD]
    refine ⟨fun v hv => ?_, r2⟩
    rw [r1 v hv]
    show tz (mS h 66 i) * mK h 66 (mG h 66 i) v = tz (mS h 66 i) * mK h2 66 (mG h2 66 i) v
    rw [eG, mo _ gi v hv]
  exact ⟨x, h1, h2, e1, e2, t.fr f k (by simp) (by simp) (by simp) (by simp), ⟨nv, nf', m, lv, n1, p2, c2⟩, s.fr f (by simp), r.fr (FrK.of f (by simp) (ks := [])) k (by simp) (by simp) (by simp) (by simp), o.fr (FrK.of f (by simp) (ks := [])) k (by simp) (by simp)⟩
theorem st_4 : St_4 Inv := fun h I a1 a2 => by
  obtain ⟨nv, nf, m, lv, n1, p, c⟩ := I.2.1
  obtain ⟨x, e1, e2⟩ := coefficient_step p a1 a2
  exact ⟨x, e1, e2, I⟩
theorem st_5 : St_5 Inv := fun h I a1 a2 a3 => by
  obtain ⟨t, ⟨nv, nf, m, lv, n1, p, c⟩, s, r, o⟩ := I
  obtain ⟨x, h1, h2, e1, e2, ⟨m', p2, c2⟩, f, -, k⟩ := asserts_step p n1 c a1 a2 a3
  exact ⟨x, h1, h2, e1, e2, t.fr f k (by simp [rowc]) (by simp [rowc]) (by simp [rowc]) (by simp), ⟨nv, nf, m', lv, n1, p2, c2⟩, s.fr f (by simp [rowc]), r.fr (FrK.of f (by simp [rowc]) (ks := [])) k (by simp) (by simp) (by simp) (by simp), o.fr (FrK.of f (by simp [rowc]) (ks := [])) k (by simp) (by simp)⟩
theorem st_6 : St_6 Inv := fun h I a1 a2 => by
  obtain ⟨nv, nf, m, lv, n1, p, c⟩ := I.2.1
  obtain ⟨x, e1, e2⟩ := bound_step p a1 a2
  exact ⟨x, e1, e2, I⟩
theorem st_7 : St_7 Inv := fun h I => by
  obtain ⟨t, ⟨nv, nf, m, lv, n1, p, c⟩, s, r, o⟩ := I
  obtain ⟨x, h1, h2, e1, e2, ⟨lv', p2⟩, f, -, k⟩ := level_step p
  have c2 : CIM h2 nv m := CIM.fr p.2.2.2.1.2.1 c f k (by simp) (by simp)
  exact ⟨x, h1, h2, e1, e2, t.fr f k (by simp) (by simp) (by simp) (by simp), ⟨nv, nf, m, lv', n1, p2, c2⟩, s.fr f (by simp), r.fr (FrK.of f (by simp) (ks := [])) k (by simp) (by simp) (by simp) (by simp), o.fr (FrK.of f (by simp) (ks := [])) k (by simp) (by simp)⟩
theorem st_8 : St_8 Inv := fun h I a1 => by
  obtain ⟨t, ⟨nv, nf, m, lv, n1, p, c⟩, s, r, o⟩ := I
  obtain ⟨x, h1, h2, e1, e2, ⟨m', lv', p2, c2⟩, f, -, k⟩ := withdraws_step p c a1
  exact ⟨x, h1, h2, e1, e2, t.fr f k (by simp) (by simp) (by simp) (by simp), ⟨nv, nf, m', lv', n1, p2, c2⟩, s.fr f (by simp), r.fr (FrK.of f (by simp) (ks := [])) k (by simp) (by simp) (by simp) (by simp), o.fr (FrK.of f (by simp) (ks := [])) k (by simp) (by simp)⟩
theorem st_9 : St_9 Inv := fun h I => by
  obtain ⟨nv, nf, m, lv, n1, p, c⟩ := I.2.1
  obtain ⟨x, h2, e1, e2, f, k⟩ := met_step p n1 c
  exact ⟨x, h2, e1, e2, I.fr f k (by simp [scr]) (by simp [scrK, iks])⟩
theorem st_10 : St_10 Inv := fun h I => by
  obtain ⟨nv, nf, m, lv, n1, p, c⟩ := I.2.1
  obtain ⟨x, h2, e1, e2, f, k⟩ := core_step p n1 c
  exact ⟨x, h2, e1, e2, I.fr f k (by simp [scr]) (by simp [scrK, iks])⟩
theorem st_11 : St_11 Inv := fun h I a1 => by
  obtain ⟨t, ⟨nv, nf, m, lv, n1, p, c⟩, s, r, o⟩ := I
  obtain ⟨x, h1, h2, e1, e2, p2, c2, f, k0, k, o2⟩ := proof_step p n1 c a1
  exact ⟨x, h1, h2, e1, e2, t.fr f k (by simp [prfc, scr]) (by simp [prfc, scr]) (by simp [prfc, scr]) (by simp [prfK, scrK, iks]), ⟨nv, nf, m, lv, n1, p2, c2⟩, s.fr f (by simp [prfc, scr]), r.fr k0 k (by simp) (by simp) (by simp [prfK, scrK, iks]) (by simp [prfK, scrK, iks]), o2 o⟩
theorem st_12 : St_12 Inv := fun h I a1 => by
  obtain ⟨t, ⟨nv, nf, m, lv, n1, p, c⟩, s, r, o⟩ := I
  obtain ⟨x, h1, h2, e1, e2, p2, c2, f, k0, k, r2⟩ := relief_step p n1 c a1
  exact ⟨x, h1, h2, e1, e2, t.fr f k (by simp [rngc, rowc, scr]) (by simp [rngc, rowc, scr]) (by simp [rngc, rowc, scr]) (by simp [rngK, scrK, iks]), ⟨nv, nf, m, lv, n1, p2, c2⟩, s.fr f (by simp [rngc, rowc, scr]), r2 r, o.fr k0 k (by simp) (by simp [rngK, scrK, iks])⟩
theorem st_13 : St_13 Inv := fun h I a1 => by
  obtain ⟨nv, nf, m, lv, n1, p, c⟩ := I.2.1
  obtain ⟨x, h2, e1, e2, f, k⟩ := spared_step p n1 c a1
  exact ⟨x, h2, e1, e2, I.fr f k (by simp [scr]) (by simp [scrK, iks])⟩
theorem st_14 : St_14 Inv := fun h I a1 a2 => by
  obtain ⟨t, ⟨nv, nf, m, lv, n1, p, c⟩, s, r, o⟩ := I
  obtain ⟨x, h1, h2, e1, e2, p2, c2, f, k0, k, r2⟩ := range_step p n1 c a1 a2
  exact ⟨x, h1, h2, e1, e2, t.fr f k (by simp [rngc, rowc, scr]) (by simp [rngc, rowc, scr]) (by simp [rngc, rowc, scr]) (by simp [rngK, scrK, iks]), ⟨nv, nf, m, lv, n1, p2, c2⟩, s.fr f (by simp [rngc, rowc, scr]), r2 r, o.fr k0 k (by simp) (by simp [rngK, scrK, iks])⟩
theorem askv_inv {h h2 : Hp} {nv nf m lv : Nat} (I : Inv h) (n1 : 1 ≤ nv) (p2 : ProbR h2 nv nf m lv) (c2 : CIM h2 nv m) (f : Fr askc h h2) (k : FrK 66 scrK h h2) : Inv h2 := by
  obtain ⟨t, -, s, r, o⟩ := I
  have k0 : FrK 0 [] h h2 := FrK.of f (by simp [askc, rowc, scr])
  exact ⟨t.fr f k (by simp [askc, rowc, scr]) (by simp [askc, rowc, scr]) (by simp [askc, rowc, scr]) (by simp [scrK, iks]), ⟨nv, nf, m, lv, n1, p2, c2⟩, s.fr f (by simp [askc, rowc, scr]), r.fr k0 k (by simp) (by simp) (by simp [scrK, iks]) (by simp [scrK, iks]), o.fr k0 k (by simp) (by simp [scrK, iks])⟩
theorem st_15 : St_15 Inv := fun h I a1 a2 a3 => by
  obtain ⟨nv, nf, m, lv, n1, p, c⟩ := I.2.1
  obtain ⟨x, h1, h2, e1, e2, p2, c2, f, k⟩ := follows_step p n1 c a1 a2 a3
  exact ⟨x, h1, h2, e1, e2, askv_inv I n1 p2 c2 f k⟩
theorem st_16 : St_16 Inv := fun h I a1 a2 a3 => by
  obtain ⟨nv, nf, m, lv, n1, p, c⟩ := I.2.1
  obtain ⟨x, h1, h2, e1, e2, p2, c2, f, k⟩ := since_step p n1 c a1 a2 a3
  exact ⟨x, h1, h2, e1, e2, askv_inv I n1 p2 c2 f k⟩
theorem st_17 : St_17 Inv := fun h I a1 a2 a3 => by
  obtain ⟨nv, nf, m, lv, n1, p, c⟩ := I.2.1
  obtain ⟨x, h1, h2, e1, e2, p2, c2, f, k⟩ := why_step p n1 c a1 a2 a3
  exact ⟨x, h1, h2, e1, e2, askv_inv I n1 p2 c2 f k⟩
theorem qs_inv {h h2 : Hp} {nv nf m lv : Nat} (I : Inv h) (n1 : 1 ≤ nv) (q : QS h h2 nv nf m lv) : Inv h2 := by
  obtain ⟨t, -, s, r, o⟩ := I
  obtain ⟨p2, c2, f, k0, k, r2⟩ := q
  exact ⟨t.fr f k (by simp [smq, smpc, smc, scr]) (by simp [smq, smpc, smc, scr]) (by simp [smq, smpc, smc, scr]) (by simp [rngK, scrK, iks]), ⟨nv, nf, m, lv, n1, p2, c2⟩, s.fr f (by simp [smq, smpc, smc, scr]), r2 r, o.fr k0 k (by simp) (by simp [rngK, scrK, iks])⟩
theorem st_18 : St_18 Inv := fun h I a1 => by
  obtain ⟨nv, nf, m, lv, n1, p, c⟩ := I.2.1
  obtain ⟨x, h1, h2, e1, e2, q⟩ := sample_step p n1 c a1
  exact ⟨x, h1, h2, e1, e2, qs_inv I n1 q⟩
theorem st_19 : St_19 Inv := fun h I a1 => by
  obtain ⟨nv, nf, m, lv, n1, p, c⟩ := I.2.1
  obtain ⟨x, h1, h2, e1, e2, q⟩ := value_step p n1 c a1
  exact ⟨x, h1, h2, e1, e2, qs_inv I n1 q⟩
theorem st_20 : St_20 Inv := fun h I a1 a2 => by
  obtain ⟨t, ⟨nv, nf, m, lv, n1, p, c⟩, s, r, o⟩ := I
  obtain ⟨x, h1, h2, e1, e2, p2, c2, f, k0, k, r2⟩ := corner_step p n1 c a1 a2
  exact ⟨x, h1, h2, e1, e2, t.fr f k (by simp [crc, clc, sysc]) (by simp [crc, clc, sysc]) (by simp [crc, clc, sysc]) (by simp [crK]), ⟨nv, nf, m, lv, n1, p2, c2⟩, s.fr f (by simp [crc, clc, sysc]), r2 r, o.fr k0 k (by simp) (by simp [crK])⟩
theorem st_21 : St_21 Inv := fun h I a1 a2 => by
  obtain ⟨t, ⟨nv, nf, m, lv, n1, p, c⟩, s, r, o⟩ := I
  obtain ⟨x, h1, h2, e1, e2, f, k0, k, o2⟩ := whole_step p c a1 a2
  obtain ⟨p2, c2⟩ := PC.fr p c f k (by simp) (by simp)
  exact ⟨x, h1, h2, e1, e2, t.fr f k (by simp) (by simp) (by simp) (by simp), ⟨nv, nf, m, lv, n1, p2, c2⟩, s.fr f (by simp), r.fr k0 k (by simp) (by simp) (by simp) (by simp), o2 o⟩
theorem st_22 : St_22 Inv := fun h I => ⟨h.2 0 12, rfl, by unfold s_X10_upper; rw [I.2.2.2.1.1], I⟩
theorem st_23 : St_23 Inv := fun h I => ⟨h.2 0 13, rfl, by unfold s_X10_lower; rw [I.2.2.2.1.2], I⟩
theorem st_24 : St_24 Inv := fun h I => ⟨h.2 0 14, rfl, by
  have := I.2.2.2.2
  unfold TI at this
  unfold s_X10_told; rw [this], I⟩
theorem st_25 : St_25 Inv := fun h I a1 => by
  obtain ⟨t, ⟨nv, nf, m, lv, n1, p, c⟩, s, r, o⟩ := I
  obtain ⟨x, h1, h2, e1, e2, s2, f⟩ := keep_step p n1 s a1
  have k : FrK 66 [] h h2 := FrK.of f (by simp [savc])
  have k0 : FrK 0 [] h h2 := FrK.of f (by simp [savc])
  obtain ⟨p2, c2⟩ := PC.fr p c f k (by simp [savc]) (by simp)
  exact ⟨x, h1, h2, e1, e2, t.fr f k (by simp [savc]) (by simp [savc]) (by simp [savc]) (by simp), ⟨nv, nf, m, lv, n1, p2, c2⟩, s2, r.fr k0 k (by simp) (by simp) (by simp) (by simp), o.fr k0 k (by simp) (by simp)⟩
theorem st_26 : St_26 Inv := fun h I a1 => by
  obtain ⟨t, ⟨nv, nf, m, lv, n1, p, c⟩, s, r, o⟩ := I
  obtain ⟨x, h1, h2, e1, e2, p2, f, k⟩ := back_step p n1 c s a1
  have k0 : FrK 0 [] h h2 := FrK.of f (by simp [probc, rowc])
  exact ⟨x, h1, h2, e1, e2, t.fr f k (by simp [probc, rowc]) (by simp [probc, rowc]) (by simp [probc, rowc]) (by simp), p2, s.fr f (by simp [probc, rowc]), r.fr k0 k (by simp) (by simp) (by simp) (by simp), o.fr k0 k (by simp) (by simp)⟩
theorem st_27 : St_27 Inv := fun h I a1 => by
  obtain ⟨t, ⟨nv, nf, m, lv, n1, p, c⟩, s, r, o⟩ := I
  obtain ⟨x, h1, h2, e1, e2, p2, c2, f, k0, k⟩ := count_step p n1 c t a1
  exact ⟨x, h1, h2, e1, e2, t.fr f k (by simp [crc, clc, sysc]) (by simp [crc, clc, sysc]) (by simp [crc, clc, sysc]) (by simp), ⟨nv, nf, m, lv, n1, p2, c2⟩, s.fr f (by simp [crc, clc, sysc]), r.fr k0 k (by simp) (by simp) (by simp) (by simp), o.fr k0 k (by simp) (by simp)⟩
theorem pure_ok : ∃ Inv : Hp → Prop, Inv hp0 ∧ Steps28 Inv := ⟨Inv, inv0, st_0, st_1, st_2, st_3, st_4, st_5, st_6, st_7, st_8, st_9, st_10, st_11, st_12, st_13, st_14, st_15, st_16, st_17, st_18, st_19, st_20, st_21, st_22, st_23, st_24, st_25, st_26, st_27⟩
