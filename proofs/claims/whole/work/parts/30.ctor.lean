/-! makers: a world that grows -/
def tys3 (cT : Nat → ClassId) : List (ClassId × FieldType) := [(cT 0, .int), (cT 1, .boolean), (cT 2, .long)]
def Gn (K : gK) (cl sl pc : Nat) (lv : List (Nat × Value)) (st : List Value) (ws : va_W) : Prop :=
  match K with
  | ((p, l, e, R), (s, m, args, below), (meth, c, _, _), (D, _, _, A), Q) =>
    ∀ (H : Heap) (locs : List Loc) (ls : Array Slot), lv_has ls c.maxLocals lv → va_P D vwCl ws H → va_D A ws → va_S A s.heap H locs → W p l e R s m args below meth c H locs cl sl Q (F0 m pc ls st)
def Cn (K : gK) (own : String) (cc : ByteArray) (nL fr lo mc ms : Nat) : Prop :=
  match K with
  | ((p, _, _, R), (s, m, args, _), (meth, c, _, _), (D, cT, _, A), _) =>
    p.tables.exec = Jvm.exec ∧ c.code = cc ∧ c.maxLocals = nL ∧ s.vm.findClass own = some m.cls ∧ (∀ w ∈ lw_gd, w.before args s = true) ∧ va_K D vwCl (tys3 cT) s ∧ (∀ q, s.heap.size ≤ q → A q) ∧ fr ≤ R.frames ∧ lo ≤ R.locals ∧ mc ≤ R.cells ∧ ms ≤ R.slots ∧ NW s ∧ va_AO "BoundProofs$Problem" s ∧ (own ≠ "BoundProofsLaw" → meth.name = "<init>")
theorem n_iconst {K : gK} {own : String} {cc : ByteArray} {nL fr lo mc ms cl sl pc : Nat} {lv : List (Nat × Value)} {st : List Value} {ws : va_W} {n : Int} {v : Int32} (S : Cn K own cc nL fr lo mc ms) (d : decode cc pc = .ok (.iconst n, 1)) (hv : Int32.ofInt n = v) (k : Gn K cl sl (pc + 1) lv (.int v :: st) ws) : Gn K cl sl pc lv (st) ws := by
  obtain ⟨⟨p, l, e, R⟩, ⟨s, m, args, below⟩, ⟨meth, c0, k1, k2⟩, ⟨D, cT, aD, A⟩, Q⟩ := K
  obtain ⟨hx, hb, hml, hown, hts, hK, hAs, hfr, hlo, hmc, hms, hNW, hAO, hin⟩ := S
  exact fun H locs ls hl hP hD hS => lv_iconst hx hb d hv (k H locs ls hl hP hD hS)
theorem n_bipush {K : gK} {own : String} {cc : ByteArray} {nL fr lo mc ms cl sl pc : Nat} {lv : List (Nat × Value)} {st : List Value} {ws : va_W} {n : Int} {v : Int32} (S : Cn K own cc nL fr lo mc ms) (d : decode cc pc = .ok (.bipush n, 2)) (hv : (Int8.ofInt n).toInt32 = v) (k : Gn K cl sl (pc + 2) lv (.int v :: st) ws) : Gn K cl sl pc lv (st) ws := by
  obtain ⟨⟨p, l, e, R⟩, ⟨s, m, args, below⟩, ⟨meth, c0, k1, k2⟩, ⟨D, cT, aD, A⟩, Q⟩ := K
  obtain ⟨hx, hb, hml, hown, hts, hK, hAs, hfr, hlo, hmc, hms, hNW, hAO, hin⟩ := S
  exact fun H locs ls hl hP hD hS => lv_bipush hx hb d hv (k H locs ls hl hP hD hS)
theorem n_sipush {K : gK} {own : String} {cc : ByteArray} {nL fr lo mc ms cl sl pc : Nat} {lv : List (Nat × Value)} {st : List Value} {ws : va_W} {n : Int} {v : Int32} (S : Cn K own cc nL fr lo mc ms) (d : decode cc pc = .ok (.sipush n, 3)) (hv : (Int16.ofInt n).toInt32 = v) (k : Gn K cl sl (pc + 3) lv (.int v :: st) ws) : Gn K cl sl pc lv (st) ws := by
  obtain ⟨⟨p, l, e, R⟩, ⟨s, m, args, below⟩, ⟨meth, c0, k1, k2⟩, ⟨D, cT, aD, A⟩, Q⟩ := K
  obtain ⟨hx, hb, hml, hown, hts, hK, hAs, hfr, hlo, hmc, hms, hNW, hAO, hin⟩ := S
  exact fun H locs ls hl hP hD hS => lv_sipush hx hb d hv (k H locs ls hl hP hD hS)
theorem n_lconst {K : gK} {own : String} {cc : ByteArray} {nL fr lo mc ms cl sl pc : Nat} {lv : List (Nat × Value)} {st : List Value} {ws : va_W} {n : Fin 2} {v : Int64} (S : Cn K own cc nL fr lo mc ms) (d : decode cc pc = .ok (.lconst n, 1)) (hv : Int64.ofNat (n : Nat) = v) (k : Gn K cl sl (pc + 1) lv (.long v :: st) ws) : Gn K cl sl pc lv (st) ws := by
  obtain ⟨⟨p, l, e, R⟩, ⟨s, m, args, below⟩, ⟨meth, c0, k1, k2⟩, ⟨D, cT, aD, A⟩, Q⟩ := K
  obtain ⟨hx, hb, hml, hown, hts, hK, hAs, hfr, hlo, hmc, hms, hNW, hAO, hin⟩ := S
  exact fun H locs ls hl hP hD hS => lv_lconst hx hb d hv (k H locs ls hl hP hD hS)
theorem n_dup {K : gK} {own : String} {cc : ByteArray} {nL fr lo mc ms cl sl pc : Nat} {lv : List (Nat × Value)} {st : List Value} {ws : va_W} {v : Value} (S : Cn K own cc nL fr lo mc ms) (d : decode cc pc = .ok (.dup, 1)) (hv : v.category = 1) (k : Gn K cl sl (pc + 1) lv (v :: v :: st) ws) : Gn K cl sl pc lv (v :: st) ws := by
  obtain ⟨⟨p, l, e, R⟩, ⟨s, m, args, below⟩, ⟨meth, c0, k1, k2⟩, ⟨D, cT, aD, A⟩, Q⟩ := K
  obtain ⟨hx, hb, hml, hown, hts, hK, hAs, hfr, hlo, hmc, hms, hNW, hAO, hin⟩ := S
  exact fun H locs ls hl hP hD hS => lv_dup hx hb d hv (k H locs ls hl hP hD hS)
theorem n_aload_n {K : gK} {own : String} {cc : ByteArray} {nL fr lo mc ms cl sl pc : Nat} {lv : List (Nat × Value)} {st : List Value} {ws : va_W} {k : Fin 4} {x : Nat} (j : Nat) (S : Cn K own cc nL fr lo mc ms) (d : decode cc pc = .ok (.aload_n k, 1)) (hj : lv[j]? = some ((k : Nat), .ref x)) (k : Gn K cl sl (pc + 1) lv (.ref x :: st) ws) : Gn K cl sl pc lv (st) ws := by
  obtain ⟨⟨p, l, e, R⟩, ⟨s, m, args, below⟩, ⟨meth, c0, k1, k2⟩, ⟨D, cT, aD, A⟩, Q⟩ := K
  obtain ⟨hx, hb, hml, hown, hts, hK, hAs, hfr, hlo, hmc, hms, hNW, hAO, hin⟩ := S
  exact fun H locs ls hl hP hD hS => lv_aload_n hx hb d rfl (lv_at hl j hj) (k H locs ls hl hP hD hS)
theorem n_astore_n {K : gK} {own : String} {cc : ByteArray} {nL fr lo mc ms cl sl pc : Nat} {lv : List (Nat × Value)} {st : List Value} {ws : va_W} {k : Fin 4} {i x : Nat} {lv' : List (Nat × Value)} (S : Cn K own cc nL fr lo mc ms) (d : decode cc pc = .ok (.astore_n k, 1)) (hi : (k : Nat) = i) (hn : i < nL) (hl0 : (i, Value.ref x) :: lv.filter (fun q => !(q.1 == i) && !(q.1 + 1 == i && q.2.category == 2)) = lv') (kk : Gn K cl sl (pc + 1) lv' st ws) : Gn K cl sl pc lv (.ref x :: st) ws := by
  obtain ⟨⟨p, l, e, R⟩, ⟨s, m, args, below⟩, ⟨meth, c0, k1, k2⟩, ⟨D, cT, aD, A⟩, Q⟩ := K
  obtain ⟨hx, hb, hml, hown, hts, hK, hAs, hfr, hlo, hmc, hms, hNW, hAO, hin⟩ := S
  exact fun H locs ls hl hP hD hS => lv_astore_n hx hb d hi hl (by rw [hml]; exact hn) hl0 (fun ls hl => kk H locs ls hl hP hD hS)
theorem n_obj {K : gK} {own : String} {cc : ByteArray} {nL fr lo mc ms cl sl pc : Nat} {lv : List (Nat × Value)} {st : List Value} {ws : va_W} {a idx : Nat} (S : Cn K own cc nL fr lo mc ms) (d : decode cc pc = .ok (.invokespecial idx, 3)) (w1 : Cond.methodLink own idx objectInit ∈ lw_gd) (w2 : Cond.instanceMethod objectInit ∈ lw_gd) (w3 : Cond.code objectInit ⟨#[0xb1]⟩ 1 none ∈ lw_gd) (hf : 1 ≤ fr) (hl9 : (st.map fun v => v.category).sum + 12 ≤ lo) (k : Gn K cl sl (pc + 3) lv st ws) : Gn K cl sl pc lv (.ref a :: st) ws := by
  obtain ⟨⟨p, l, e, R⟩, ⟨s, m, args, below⟩, ⟨meth, c0, k1, k2⟩, ⟨D, cT, aD, A⟩, Q⟩ := K
  obtain ⟨hx, hb, hml, hown, hts, hK, hAs, hfr, hlo, hmc, hms, hNW, hAO, hin⟩ := S
  exact fun H locs ls hl hP hD hS => W.objInit hx hb hown (hts _ w1) (hts _ w2) (hts _ w3) rfl hl.1 rfl d (Nat.le_trans hf hfr) (by show 2 * 0 + _ + 12 ≤ _; omega) (k H locs ls hl hP hD hS)
theorem n_newI {K : gK} {own : String} {cc : ByteArray} {nL fr lo mc ms cl sl pc : Nat} {lv : List (Nat × Value)} {st : List Value} {ws : va_W} {n : Int32} {N : Nat} (S : Cn K own cc nL fr lo mc ms) (d : decode cc pc = .ok (.newarray .int, 2)) (w1 : Cond.arrayClass .int ∈ lw_gd) (hn : ¬ n < 0) (hN : n.toNatClampNeg = N) (hby : N * componentBytes .int ≤ 536870912) (hc : cl + 1 ≤ mc) (hs : sl + N ≤ ms) (k : ∀ q : Nat, Gn K (cl + 1) (sl + N) (pc + 2) lv (.ref q :: st) (ws ++ [(q, .inl (K.2.2.2.1.2.1 0, (N, .inl (fun _ => 0))))])) : Gn K cl sl pc lv (.int n :: st) ws := by
  obtain ⟨⟨p, l, e, R⟩, ⟨s, m, args, below⟩, ⟨meth, c0, k1, k2⟩, ⟨D, cT, aD, A⟩, Q⟩ := K
  obtain ⟨hx, hb, hml, hown, hts, hK, hAs, hfr, hlo, hmc, hms, hNW, hAO, hin⟩ := S
  intro H locs ls hl hP hD hS
  refine va_newa (atype := .int) (ty := .int) (a0 := (N, .inl (fun _ => 0))) hx hb (hts _ w1) rfl hK hP hD hS hAs (fun cA => rfl) hn hN hby (Nat.le_trans hc hmc) (Nat.le_trans hs hms) d (fun q cA H1 hK1 hP1 hD1 hS1 => ?_)
  have e : cA = cT 0 := by
    have h1 : s.vm.findClass _ = some cA := (hK1.2 3 (cA, .int) rfl).2
    have h2 : s.vm.findClass _ = some (cT 0) := (hK.2 0 (cT 0, .int) rfl).2
    exact Option.some.inj (h1.symm.trans h2)
  subst e
  exact k q H1 locs ls hl hP1 hD1 hS1
theorem n_newZ {K : gK} {own : String} {cc : ByteArray} {nL fr lo mc ms cl sl pc : Nat} {lv : List (Nat × Value)} {st : List Value} {ws : va_W} {n : Int32} {N : Nat} (S : Cn K own cc nL fr lo mc ms) (d : decode cc pc = .ok (.newarray .boolean, 2)) (w1 : Cond.arrayClass .boolean ∈ lw_gd) (hn : ¬ n < 0) (hN : n.toNatClampNeg = N) (hby : N * componentBytes .boolean ≤ 536870912) (hc : cl + 1 ≤ mc) (hs : sl + N ≤ ms) (k : ∀ q : Nat, Gn K (cl + 1) (sl + N) (pc + 2) lv (.ref q :: st) (ws ++ [(q, .inl (K.2.2.2.1.2.1 1, (N, .inl (fun _ => 0))))])) : Gn K cl sl pc lv (.int n :: st) ws := by
  obtain ⟨⟨p, l, e, R⟩, ⟨s, m, args, below⟩, ⟨meth, c0, k1, k2⟩, ⟨D, cT, aD, A⟩, Q⟩ := K
  obtain ⟨hx, hb, hml, hown, hts, hK, hAs, hfr, hlo, hmc, hms, hNW, hAO, hin⟩ := S
  intro H locs ls hl hP hD hS
  refine va_newa (atype := .boolean) (ty := .boolean) (a0 := (N, .inl (fun _ => 0))) hx hb (hts _ w1) rfl hK hP hD hS hAs (fun cA => rfl) hn hN hby (Nat.le_trans hc hmc) (Nat.le_trans hs hms) d (fun q cA H1 hK1 hP1 hD1 hS1 => ?_)
  have e : cA = cT 1 := by
    have h1 : s.vm.findClass _ = some cA := (hK1.2 3 (cA, .boolean) rfl).2
    have h2 : s.vm.findClass _ = some (cT 1) := (hK.2 1 (cT 1, .boolean) rfl).2
    exact Option.some.inj (h1.symm.trans h2)
  subst e
  exact k q H1 locs ls hl hP1 hD1 hS1
theorem n_newJ {K : gK} {own : String} {cc : ByteArray} {nL fr lo mc ms cl sl pc : Nat} {lv : List (Nat × Value)} {st : List Value} {ws : va_W} {n : Int32} {N : Nat} (S : Cn K own cc nL fr lo mc ms) (d : decode cc pc = .ok (.newarray .long, 2)) (w1 : Cond.arrayClass .long ∈ lw_gd) (hn : ¬ n < 0) (hN : n.toNatClampNeg = N) (hby : N * componentBytes .long ≤ 536870912) (hc : cl + 1 ≤ mc) (hs : sl + N ≤ ms) (k : ∀ q : Nat, Gn K (cl + 1) (sl + N) (pc + 2) lv (.ref q :: st) (ws ++ [(q, .inl (K.2.2.2.1.2.1 2, (N, .inr (.inl (fun _ => 0)))))])) : Gn K cl sl pc lv (.int n :: st) ws := by
  obtain ⟨⟨p, l, e, R⟩, ⟨s, m, args, below⟩, ⟨meth, c0, k1, k2⟩, ⟨D, cT, aD, A⟩, Q⟩ := K
  obtain ⟨hx, hb, hml, hown, hts, hK, hAs, hfr, hlo, hmc, hms, hNW, hAO, hin⟩ := S
  intro H locs ls hl hP hD hS
  refine va_newa (atype := .long) (ty := .long) (a0 := (N, .inr (.inl (fun _ => 0)))) hx hb (hts _ w1) rfl hK hP hD hS hAs (fun cA => rfl) hn hN hby (Nat.le_trans hc hmc) (Nat.le_trans hs hms) d (fun q cA H1 hK1 hP1 hD1 hS1 => ?_)
  have e : cA = cT 2 := by
    have h1 : s.vm.findClass _ = some cA := (hK1.2 3 (cA, .long) rfl).2
    have h2 : s.vm.findClass _ = some (cT 2) := (hK.2 2 (cT 2, .long) rfl).2
    exact Option.some.inj (h1.symm.trans h2)
  subst e
  exact k q H1 locs ls hl hP1 hD1 hS1
theorem n_newo {K : gK} {own : String} {cc : ByteArray} {nL fr lo mc ms cl sl pc : Nat} {lv : List (Nat × Value)} {st : List Value} {ws : va_W} {ci index N : Nat} {C : String} {T : u_T} {ty : Nat → FieldType} {fs : List Value} (S : Cn K own cc nL fr lo mc ms) (d : decode cc pc = .ok (.new index, 3)) (kl : KL ci C T N ty) (w1 : Cond.classLink own index C ∈ lw_gd) (w2 : Cond.instantiable C N ∈ lw_gd) (w3 : Cond.initialized C ∈ lw_gd) (hfs : ∀ j, j < N → defaultValue (ty j) = vp_V fs j) (hc : cl + 1 ≤ mc) (hs : sl + N ≤ ms) (k : ∀ q : Nat, Gn K (cl + 1) (sl + N) (pc + 3) lv (.ref q :: st) (ws ++ [(q, .inr (ci, fs))])) : Gn K cl sl pc lv st ws := by
  obtain ⟨⟨p, l, e, R⟩, ⟨s, m, args, below⟩, ⟨meth, c0, k1, k2⟩, ⟨D, cT, aD, A⟩, Q⟩ := K
  obtain ⟨hx, hb, hml, hown, hts, hK, hAs, hfr, hlo, hmc, hms, hNW, hAO, hin⟩ := S
  intro H locs ls hl hP hD hS
  obtain ⟨k1, k2, k3, k4, k5⟩ := kl
  exact va_new hx hb hts k2 ty k3 hown (hts _ w1) (hts _ w2) (hts _ w3) hK hP hD hS hAs k1 hfs (Nat.le_trans hc hmc) (Nat.le_trans hs hms) d (fun q H1 hP1 hD1 hS1 => k q H1 locs ls hl hP1 hD1 hS1)
theorem n_put {K : gK} {own : String} {cc : ByteArray} {nL fr lo mc ms cl sl pc : Nat} {lv : List (Nat × Value)} {st : List Value} {ws : va_W} {a p0 ci k index : Nat} {fs : List Value} {v : Value} {q : Nat × Nat} {ft : FieldType} {ws' : va_W} (S : Cn K own cc nL fr lo mc ms) (d : decode cc pc = .ok (.putfield index, 3)) (F : FL own index ci k q false ft) (he : ws[p0]? = some (a, .inr (ci, fs))) (hn : narrow ft v = v) (hfit : fits ft v = true) (hlen : fs.length = (fk ci).length) (hw : ws.set p0 (a, .inr (ci, fs.set k v)) = ws') (kk : Gn K cl sl (pc + 3) lv st ws') : Gn K cl sl pc lv (v :: .ref a :: st) ws := by
  obtain ⟨⟨p, l, e, R⟩, ⟨s, m, args, below⟩, ⟨meth, c0, k1, k2⟩, ⟨D, cT, aD, A⟩, Q⟩ := K
  obtain ⟨hx, hb, hml, hown, hts, hK, hAs, hfr, hlo, hmc, hms, hNW, hAO, hin⟩ := S
  obtain ⟨C, T, N, ty, ⟨k1, k2, k3, k4, k5⟩, hkN, hlink, hq, hfin, hft, hC⟩ := F
  intro H locs ls hl hP hD hS
  subst hw
  exact va_put (ty := ft) (v := v) hx hb hts k2 ty k3 k4 hown hK hP hD hS p0 he k1 k hkN (hts _ hlink) (fun x hx => by rw [hC] at hx; exact hx) hfin (by rw [k3 k hkN, hft]) hn hfit (by rw [hlen, k5]; exact hkN) d (fun H1 locs1 hP1 hD1 hS1 => kk H1 locs1 ls hl hP1 hD1 hS1)
def cls_of (ci : Nat) : String := (vwCl[ci]?.map (fun q => q.1)).getD ""
theorem n_putF {K : gK} {own : String} {cc : ByteArray} {nL fr lo mc ms cl sl pc : Nat} {lv : List (Nat × Value)} {st : List Value} {ws : va_W} {a p0 ci k index : Nat} {fs : List Value} {v : Value} {q : Nat × Nat} {ft : FieldType} {ws' : va_W} (S : Cn K own cc nL fr lo mc ms) (d : decode cc pc = .ok (.putfield index, 3)) (F : FL own index ci k q true ft) (he : ws[p0]? = some (a, .inr (ci, fs))) (hcl : cls_of ci = own) (hnl : own ≠ "BoundProofsLaw") (hn : narrow ft v = v) (hfit : fits ft v = true) (hlen : fs.length = (fk ci).length) (hw : ws.set p0 (a, .inr (ci, fs.set k v)) = ws') (kk : Gn K cl sl (pc + 3) lv st ws') : Gn K cl sl pc lv (v :: .ref a :: st) ws := by
  obtain ⟨⟨p, l, e, R⟩, ⟨s, m, args, below⟩, ⟨meth, c0, k1, k2⟩, ⟨D, cT, aD, A⟩, Q⟩ := K
  obtain ⟨hx, hb, hml, hown, hts, hK, hAs, hfr, hlo, hmc, hms, hNW, hAO, hin⟩ := S
  obtain ⟨C, T, N, ty, ⟨k1, k2, k3, k4, k5⟩, hkN, hlink, hq, hfin, hft, hC⟩ := F
  intro H locs ls hl hP hD hS
  subst hw
  exact va_putF (ty := ft) (v := v) hx hb hts k2 ty k3 k4 hown hK hP hD hS p0 he k1 k hkN (hts _ hlink) (fun x hx => by rw [hC] at hx; exact hx) hfin (hin hnl) (by rw [hC]; have h8 := hcl; unfold cls_of at h8; rw [k1] at h8; exact h8) (by rw [k3 k hkN, hft]) hn hfit (by rw [hlen, k5]; exact hkN) d (fun H1 locs1 hP1 hD1 hS1 => kk H1 locs1 ls hl hP1 hD1 hS1)
theorem n_get {K : gK} {own : String} {cc : ByteArray} {nL fr lo mc ms cl sl pc : Nat} {lv : List (Nat × Value)} {st : List Value} {ws : va_W} {a p0 ci k index : Nat} {fs : List Value} {v : Value} {q : Nat × Nat} {fin : Bool} {ft : FieldType} (S : Cn K own cc nL fr lo mc ms) (d : decode cc pc = .ok (.getfield index, 3)) (F : FL own index ci k q fin ft) (he : ws[p0]? = some (a, .inr (ci, fs))) (hv : fs[k]? = some v) (kk : Gn K cl sl (pc + 3) lv (v :: st) ws) : Gn K cl sl pc lv (.ref a :: st) ws := by
  obtain ⟨⟨p, l, e, R⟩, ⟨s, m, args, below⟩, ⟨meth, c0, k1, k2⟩, ⟨D, cT, aD, A⟩, Q⟩ := K
  obtain ⟨hx, hb, hml, hown, hts, hK, hAs, hfr, hlo, hmc, hms, hNW, hAO, hin⟩ := S
  obtain ⟨C, T, N, ty, ⟨k1, k2, k3, k4, k5⟩, hkN, hlink, hq, hfin, hft, hC⟩ := F
  intro H locs ls hl hP hD hS
  exact va_get hx hb hts k2 hown hK hP p0 he k1 k hkN (hts _ hlink) (fun x hx => by rw [hC] at hx; exact hx) hv d (kk H locs ls hl hP hD hS)
theorem n_newq {K : gK} {own : String} {cc : ByteArray} {nL fr lo mc ms cl sl pc : Nat} {lv : List (Nat × Value)} {st : List Value} {ws : va_W} {n : Int32} {N index : Nat} (S : Cn K own cc nL fr lo mc ms) (d : decode cc pc = .ok (.anewarray index, 3)) (w1 : Cond.classLink own index "BoundProofs$Problem" ∈ lw_gd) (hn : ¬ n < 0) (hN : n.toNatClampNeg = N) (hby : N * 4 ≤ 536870912) (hc : cl + 1 ≤ mc) (hs : sl + N ≤ ms) (k : ∀ (q : Nat) (cA : ClassId), va_K K.2.2.2.1.1 vwCl [(cA, .object "BoundProofs$Problem")] K.2.1.1 → Gn K (cl + 1) (sl + N) (pc + 3) lv (.ref q :: st) (ws ++ [(q, .inl (cA, N, .inr (.inr (.inr (.inr (fun _ => none))))))])) : Gn K cl sl pc lv (.int n :: st) ws := by
  obtain ⟨⟨p, l, e, R⟩, ⟨s, m, args, below⟩, ⟨meth, c0, k1, k2⟩, ⟨D, cT, aD, A⟩, Q⟩ := K
  obtain ⟨hx, hb, hml, hown, hts, hK, hAs, hfr, hlo, hmc, hms, hNW, hAO, hin⟩ := S
  intro H locs ls hl hP hD hS
  exact va_newq hx hb hown (hts _ w1) hAO hK hP hD hS hAs hn hN hby (Nat.le_trans hc hmc) (Nat.le_trans hs hms) d (fun q cA H1 hK1 hP1 hD1 hS1 => k q cA (hK1.sub [3] rfl) H1 locs ls hl hP1 hD1 hS1)
theorem n_astq {K : gK} {own : String} {cc : ByteArray} {nL fr lo mc ms cl sl pc : Nat} {lv : List (Nat × Value)} {st : List Value} {ws : va_W} {a p0 pv v n : Nat} {cA : ClassId} {vs : List Value} {f : Nat → Option Nat} {i : Int32} {ws' : va_W} (S : Cn K own cc nL fr lo mc ms) (d : decode cc pc = .ok (.aastore, 1)) (hA : va_K K.2.2.2.1.1 vwCl [(cA, .object "BoundProofs$Problem")] K.2.1.1) (ha : ws[p0]? = some (a, .inl (cA, n, .inr (.inr (.inr (.inr f)))))) (hv : ws[pv]? = some (v, .inr (5, vs))) (hi : vp_in i n) (hw : ws.set p0 (a, .inl (cA, n, .inr (.inr (.inr (.inr (va_up f i.toNatClampNeg (some v))))))) = ws') (kk : Gn K cl sl (pc + 1) lv st ws') : Gn K cl sl pc lv (.ref v :: .int i :: .ref a :: st) ws := by
  obtain ⟨⟨p, l, e, R⟩, ⟨s, m, args, below⟩, ⟨meth, c0, k1, k2⟩, ⟨D, cT, aD, A⟩, Q⟩ := K
  obtain ⟨hx, hb, hml, hown, hts, hK, hAs, hfr, hlo, hmc, hms, hNW, hAO, hin⟩ := S
  intro H locs ls hl hP hD hS
  subst hw
  exact va_astq (r := (RX5, TX5, 9)) hx hb hA hP hD hS p0 0 pv 5 ha rfl hv rfl hi d (fun H1 locs1 hP1 hD1 hS1 => kk H1 locs1 ls hl hP1 hD1 hS1)
/-- a maker's contract: from the bare cell to the cells that it lays -/
def Bn (D : va_G) (cT : Nat → ClassId) (sz : Nat) (ws : va_W) : State → Prop := fun U => U.heap.size = sz ∧ va_P D vwCl ws U.heap ∧ va_K D vwCl (tys3 cT) U ∧ va_D (fun _ => True) ws ∧ NW U ∧ va_AO "BoundProofs$Problem" U
def Qn (D : va_G) (sz : Nat) (x : Nat × va_E) (post : va_W → Prop) (ex : State → Prop) : Array Value → State → Outcome → State → Prop := fun _ st o t => o = .returned none ∧ (∃ w1, post w1 ∧ va_P D vwCl w1 t.heap ∧ va_D (va_A [x] sz) w1) ∧ va_F (va_A [x] sz) st t
def OkC (l : Launch) (D : va_G) (cT : Nat → ClassId) (y : MethodName) (bytes : ByteArray) (maxL : Nat) (fr lo mc ms : Nat) (x : Nat × va_E) (post : State → va_W → Prop) : Prop :=
  ∀ sz, Met l y (wsOf y bytes maxL none) { frames := fr, cells := mc, slots := ms, locals := lo } (va_Pc [.ref x.1] (Bn D cT sz [x])) (fun _ st o t => o = .returned none ∧ (∃ w1, post st w1 ∧ va_P D vwCl w1 t.heap ∧ va_D (va_A [x] sz) w1) ∧ va_F (va_A [x] sz) st t) mc ms (va_A [x] sz)
def Rn (K : gK) (cl sl : Nat) (post : State → va_W → Prop) : Prop :=
  match K with
  | ((_, _, _, _), (s, _, args, below), (meth, _, _, _), (D, _, _, A), Q) =>
    meth.sig.returnType = none ∧ meth.locks = false ∧ ∃ Qc, Q = MQ below Qc args s cl sl A ∧ ∀ (t : State) (w1 : va_W), post s w1 → va_P D vwCl w1 t.heap → va_D A w1 → s.WarmedH t.vm → va_F A s t → Qc args s (.returned none) t
theorem OkC.of {l : Launch} {D : va_G} {cT : Nat → ClassId} {y : MethodName} {bytes : ByteArray} {maxL : Nat} {fr lo mc ms : Nat} {x : Nat × va_E} {post : State → va_W → Prop}
    (hy : plainFor y = true) (hyn : y.name = "<init>") (hlen : 1 ≤ maxL)
    (body : ∀ K : gK, K.2.2.2.1.2.1 = cT → K.2.2.2.1.1 = D → Cn K y.cls bytes maxL fr lo mc ms → Rn K mc ms post → Gn K 0 0 0 [(0, .ref x.1)] [] [x]) : OkC l D cT y bytes maxL fr lo mc ms x post := by
  intro sz
  refine ofWF (cc := bytes) (maxL := maxL) (ret := none) hy rfl ?_
  intro p e s m args below meth c s₁ B hml hv
  obtain ⟨rfl, hsz, hP, hK, hD, hNW, hAO⟩ := hv
  have hts : ∀ w ∈ wsOf y bytes maxL none, w.before #[Value.ref x.1] s = true := atoms_spec (ws := wsOf y bytes maxL none) B.pre
  have hown : s.vm.findClass y.cls = some m.cls := findClass_of_methodNamed B.named
  have hin : meth.name = "<init>" := by rw [← hyn]; exact (name_of_methodNamed B.named B.method).1
  subst hsz
  have hl := lv_entry [Value.ref x.1] (n := maxL) hlen
  rw [lg_entry_eq]
  rw [← hml] at hl
  rw [← hml]
  have key := body ((p, l, e, (headSpec (wsOf y bytes maxL none) { frames := fr, cells := mc, slots := ms, locals := lo }).room), (s, m, #[Value.ref x.1], below), (meth, c, 0, 0), (D, cT, fun _ => 0, va_A [x] s.heap.size), MQ below (fun _ st o t => o = .returned none ∧ (∃ w1, post st w1 ∧ va_P D vwCl w1 t.heap ∧ va_D (va_A [x] s.heap.size) w1) ∧ va_F (va_A [x] s.heap.size) st t) #[Value.ref x.1] s mc ms (va_A [x] s.heap.size)) rfl rfl
    ⟨B.exec, B.bytes, hml, hown, fun w hw => hts w (List.mem_cons_of_mem _ hw), hK, fun q hq => Or.inr hq, Nat.le_refl _, Nat.le_refl _, Nat.le_refl _, Nat.le_refl _, hNW, hAO, fun _ => hin⟩
    ⟨B.returns, B.notSynchronized, _, rfl, fun t w1 h1 h2 h3 _ h5 => ⟨rfl, ⟨w1, h1, h2, h3⟩, h5⟩⟩
  exact key s.heap [] _ hl hP hD.self va_S.rf
theorem n_vret {K : gK} {own : String} {cc : ByteArray} {nL fr lo mc ms cl sl pc : Nat} {lv : List (Nat × Value)} {ws : va_W} {post : State → va_W → Prop} (S : Cn K own cc nL fr lo mc ms) (F : Rn K cl sl post) (d : decode cc pc = .ok (.return_, 1)) (hp : post K.2.1.1 ws) : Gn K cl sl pc lv [] ws := by
  obtain ⟨⟨p, l, e, R⟩, ⟨s, m, args, below⟩, ⟨meth, c0, k1, k2⟩, ⟨D, cT, aD, A⟩, Q⟩ := K
  obtain ⟨hx, hb, hml, hown, hts, hK, hAs, hfr, hlo, hmc, hms, hNW, hAO, hin⟩ := S
  obtain ⟨hr, hlocks, Qc, rfl, hq⟩ := F
  intro H locs ls hl hP hD hS
  exact W.vret hx hb hr (fun t ht hW => hq t ws hp (by rw [ht]; exact hP) hD hW (hS.F ht)) hS.2.2 d
theorem n_after {D : va_G} {p : Program} {l : Launch} {e : Env} {R : Room} {s : State} {m : MethodId} {args a : Array Value} {below : List Frame} {meth : Method} {c : Code} {H : Heap} {locs : List Loc} {cl sl mc' ms' : Nat} {Q : State → Prop} {A : Nat → Prop} {T : State} {pc : Nat} {ls : Array Slot} {st rest : List Value} {x : Nat × va_E} {wr : va_W} {post : State → va_W → Prop}
    (hT : T.heap = H) (hAs : ∀ q, s.heap.size ≤ q → A q) (hP : va_P D vwCl (wr ++ [x]) H) (hD : va_D A (wr ++ [x])) (hS : va_S A s.heap H locs)
    (hc : ∃ (v : Option Value) (vm₁ : Vm) (B : Pt), s.WarmedH vm₁ ∧ Stand p l e R s m args below meth c B.U B.locs B.cells B.slots ∧ PostOf (fun _ st o t => o = .returned none ∧ (∃ w1, post st w1 ∧ va_P D vwCl w1 t.heap ∧ va_D (va_A [x] H.size) w1) ∧ va_F (va_A [x] H.size) st t) mc' ms' (va_A [x] H.size) ⟨T.setVm vm₁, locs, cl, sl⟩ a v B ∧
      ∀ target, Steps p.tables e below (B.U.setTop { F0 m pc ls st with pc := pc + 3, stack := v.toList ++ rest }) target → Steps p.tables e below (T.setTop (F0 m pc ls st)) target)
    (kk : ∀ (st₀ : State) (w1 : va_W) (H1 : Heap) (locs1 : List Loc), s.vm.Alike st₀.vm → post st₀ w1 → va_P D vwCl (wr ++ w1) H1 → va_D A (wr ++ w1) → va_S A s.heap H1 locs1 → W p l e R s m args below meth c H1 locs1 (cl + mc') (sl + ms') Q (F0 m (pc + 3) ls rest)) :
    ∃ t, Steps p.tables e below (T.setTop (F0 m pc ls st)) t ∧ Q t := by
  obtain ⟨v, vm₁, ⟨U', l2, c2, s2⟩, hW₁, X', ⟨g', mk, t, L, e1, e2, ⟨hv, ⟨w1, hp1, hP1, hD1⟩, hz, hk⟩, h1, hL, h2, h3⟩, st⟩ := hc
  dsimp only [Pt.U, Pt.locs, Pt.cells, Pt.slots] at X' e1 e2 h1 h2 h3 st
  subst h1; subst h2; subst h3
  cases hv
  have h0 : ((T.setVm vm₁).calling g' mk a).heap = H := hT
  rw [h0] at hz hk
  have hxl : (wr ++ [x])[wr.length]? = some x := by simp
  have hAA : ∀ q, va_A [x] H.size q → A q := fun q hq => by
    rcases hq with ⟨k, e, hq⟩ | hq
    · have : (q, e) = x := by
        rcases k with _ | k
        · simpa using hq.symm
        · simp at hq
      have h4 := hD.2 _ _ hxl
      rw [← this] at h4
      exact h4
    · exact hAs q (Nat.le_trans hS.1 hq)
  have hwr : ∀ (k : Nat) (y : Nat × va_E), wr[k]? = some y → (wr ++ [x])[k]? = some y := fun k y hy => by
    rw [List.getElem?_append_left (List.getElem?_eq_some_iff.mp hy).1]; exact hy
  have apart : ∀ (k : Nat) (y : Nat × va_E), wr[k]? = some y → y.1 < H.size ∧ ¬ va_A [x] H.size y.1 := fun k y hy => by
    refine ⟨(hP k y (hwr k y hy)).lt, fun hq => ?_⟩
    rcases hq with ⟨j, e, hq⟩ | hq
    · have hx2 : (y.1, e) = x := by
        rcases j with _ | j
        · simpa using hq.symm
        · simp at hq
      have h5 := hD.1 k wr.length y x (hwr k y hy) hxl (by rw [← hx2])
      have := (List.getElem?_eq_some_iff.mp hy).1
      omega
    · have := (hP k y (hwr k y hy)).lt
      omega
  have hPw : va_P D vwCl wr U'.heap := fun k y hy => by
    obtain ⟨q1, q2⟩ := apart k y hy
    exact (hP k y (hwr k y hy)).kept (by rw [e1]; exact hk y.1 q1 q2)
  have hDw : va_D A wr := ⟨fun i j y z hy hz2 e => hD.1 i j y z (hwr i y hy) (hwr j z hz2) e, fun k y hy => hD.2 k y (hwr k y hy)⟩
  obtain ⟨t2, a1, b1⟩ := kk ((T.setVm vm₁).calling g' mk a) w1 U'.heap (locs ++ L) hW₁.alike hp1 (va_P.app hPw (by rw [e1]; exact hP1)) (va_D.app hDw (hD1.weaken (fun k y _ h => hAA y.1 h)) (fun i j y z hy hz2 hyz => (apart i y hy).2 (by rw [hyz]; exact hD1.2 j z hz2)))
    ⟨Nat.le_trans hS.1 (by rw [e1]; exact hz), fun q q1 q2 => by rw [e1, hk q (Nat.lt_of_lt_of_le q1 hS.1) (fun z => q2 (hAA q z))]; exact hS.2.1 q q1 q2, fun q hq => by
      rcases List.mem_append.mp hq with hq | hq
      · exact hS.2.2 q hq
      · exact hAA _ (hL q hq)⟩ U' rfl X'
  exact ⟨t2, st t2 a1, b1⟩
theorem n_back {l : Launch} {D : va_G} {cT : Nat → ClassId} {y : MethodName} {bytes : ByteArray} {maxL fr lo mc ms n sz : Nat} {x : Nat × va_E} {post : State → va_W → Prop} {p : Program} {e : Env} {R : Room} {s : State} {args : Array Value} {below : List Frame}
    (hM : OkC l D cT y bytes maxL fr lo mc ms x post) (hm : MW y bytes maxL none n) (hts : ∀ w ∈ lw_gd, w.before args s = true) (hf : fr + 1 ≤ R.frames) (hl : 12 + (maxL + 11) + lo ≤ R.locals) :
    Back l R p e below s args y 3 12 (PreOf R mc ms (va_Pc [.ref x.1] (Bn D cT sz [x]))) (PostOf (fun _ st o t => o = .returned none ∧ (∃ w1, post st w1 ∧ va_P D vwCl w1 t.heap ∧ va_D (va_A [x] sz) w1) ∧ va_F (va_A [x] sz) st t) mc ms (va_A [x] sz)) := by
  refine back_of (bytes := bytes) (maxL := maxL) (ret := none) (hM sz) (fun a U g mk q => by
    obtain ⟨q0, q1, qP, qK, qD, qN, qA⟩ := q
    exact ⟨q0, q1, qP, va_K.moved (u := U) (U := U.calling g mk a) (Vm.Alike.refl U.vm) qK, qD, NW.same rfl qN, va_AO.moved (u := U) (U := U.calling g mk a) (Vm.Alike.refl U.vm) qA⟩) rfl rfl hf hl (fun w hw a' U hW => ?_) List.mem_cons_self (fun a' U hW => word_at hW (good_of_word (lw_good _ hm.2.1)) (hts _ hm.2.1))
  rcases List.mem_cons.mp hw with rfl | hw
  · exact word_at hW (good_of_word (lw_good _ hm.1)) (hts _ hm.1)
  · exact word_at hW (good_of_word (lw_good _ hw)) (hts _ hw)
theorem n_call {K : gK} {own : String} {cc : ByteArray} {nL fr lo mc ms cl sl pc : Nat} {lv : List (Nat × Value)} {st : List Value} {ws : va_W} {index maxL fr' lo' mc' ms' : Nat} {y : MethodName} {bytes : ByteArray} {x : Nat × va_E} {wr : va_W} {rest : List Value} {host : String} {post : State → va_W → Prop} (S : Cn K own cc nL fr lo mc ms) (d : decode cc pc = .ok (.invokespecial index, 3)) (hlink : (own, index, y, host) ∈ nestL) (hyn : y.name = "<init>") (hin2 : Cond.instanceMethod y ∈ lw_gd) (hm : MW y bytes maxL none 0)
    (hM : OkC K.1.2.1 K.2.2.2.1.1 K.2.2.2.1.2.1 y bytes maxL fr' lo' mc' ms' x post) (hws : ws = wr ++ [x]) (hst : st = .ref x.1 :: rest) (hW : (rest.map fun v => v.category).sum ≤ 12) (hf : fr' + 1 ≤ fr) (hl : 12 + (maxL + 11) + lo' ≤ lo) (hc : cl + mc' ≤ mc) (hs : sl + ms' ≤ ms)
    (kk : ∀ (st₀ : State) (w1 : va_W), K.2.1.1.vm.Alike st₀.vm → post st₀ w1 → Gn K (cl + mc') (sl + ms') (pc + 3) lv rest (wr ++ w1)) : Gn K cl sl pc lv st ws := by
  obtain ⟨⟨p, l, e, R⟩, ⟨s, m, args, below⟩, ⟨meth, c0, k1, k2⟩, ⟨D, cT, aD, A⟩, Q⟩ := K
  obtain ⟨hx, hb, hml, hown, hts, hK, hAs, hfr, hlo, hmc, hms, hNW, hAO, hin⟩ := S
  intro H locs ls hl0 hP hD hS
  subst hst; subst hws
  intro T0 hT X
  refine n_after (a := #[Value.ref x.1]) hT hAs hP hD hS ?_ (fun st₀ w1 H1 locs1 ha hp hP1 hD1 hS1 => kk st₀ w1 ha hp H1 locs1 ls hl0 hP1 hD1 hS1)
  have hxl : (wr ++ [x])[wr.length]? = some x := by simp
  exact va_callIN X hx (bytes := bytes) (maxL := maxL) hown hyn (va_Nw.use rfl (hNW _ hlink)) (hts _ hin2) (hts _ hm.1) hm.2.2.1 (n_back hM hm hts (Nat.le_trans hf hfr) (Nat.le_trans hl hlo)) rfl hl0.1 (argsL := []) (rest := rest)
    (fun sig hs => by have h2 := hm.2.2.2; rw [hs] at h2; exact (Option.some.inj h2).symm) rfl (by show 2 * 0 + _ ≤ 12; omega) (by rw [hb]; exact d)
    (fun vm₁ hW₁ => ⟨Nat.le_trans hc hmc, Nat.le_trans hs hms, rfl, by show T0.heap.size = _; rw [hT], by
        show va_P _ _ _ T0.heap
        rw [hT]
        intro k q hq
        rcases k with _ | k
        · have : x = q := by simpa using hq
          subst this
          exact hP _ _ hxl
        · simp at hq, va_K.moved hW₁.alike hK, ⟨fun i j y z hy hz e => by
          rcases i with _ | i <;> rcases j with _ | j <;> simp_all, fun _ _ _ => trivial⟩, NW.warm hW₁ hNW, va_AO.moved hW₁.alike hAO⟩)
theorem n_callP {K : gK} {own : String} {cc : ByteArray} {nL fr lo mc ms cl sl pc : Nat} {lv : List (Nat × Value)} {st : List Value} {ws : va_W} {index maxL fr' lo' mc' ms' : Nat} {y : MethodName} {bytes : ByteArray} {x : Nat × va_E} {wr : va_W} {rest : List Value} {post : State → va_W → Prop} (S : Cn K own cc nL fr lo mc ms) (d : decode cc pc = .ok (.invokespecial index, 3)) (hlink : Cond.methodLink own index y ∈ lw_gd) (hyn : y.name = "<init>") (hin2 : Cond.instanceMethod y ∈ lw_gd) (hm : MW y bytes maxL none 0)
    (hM : OkC K.1.2.1 K.2.2.2.1.1 K.2.2.2.1.2.1 y bytes maxL fr' lo' mc' ms' x post) (hws : ws = wr ++ [x]) (hst : st = .ref x.1 :: rest) (hW : (rest.map fun v => v.category).sum ≤ 12) (hf : fr' + 1 ≤ fr) (hl : 12 + (maxL + 11) + lo' ≤ lo) (hc : cl + mc' ≤ mc) (hs : sl + ms' ≤ ms)
    (kk : ∀ (st₀ : State) (w1 : va_W), K.2.1.1.vm.Alike st₀.vm → post st₀ w1 → Gn K (cl + mc') (sl + ms') (pc + 3) lv rest (wr ++ w1)) : Gn K cl sl pc lv st ws := by
  obtain ⟨⟨p, l, e, R⟩, ⟨s, m, args, below⟩, ⟨meth, c0, k1, k2⟩, ⟨D, cT, aD, A⟩, Q⟩ := K
  obtain ⟨hx, hb, hml, hown, hts, hK, hAs, hfr, hlo, hmc, hms, hNW, hAO, hin⟩ := S
  intro H locs ls hl0 hP hD hS
  subst hst; subst hws
  intro T0 hT X
  refine n_after (a := #[Value.ref x.1]) hT hAs hP hD hS ?_ (fun st₀ w1 H1 locs1 ha hp hP1 hD1 hS1 => kk st₀ w1 ha hp H1 locs1 ls hl0 hP1 hD1 hS1)
  have hxl : (wr ++ [x])[wr.length]? = some x := by simp
  exact callI X hx (bytes := bytes) (maxL := maxL) hown hyn (hts _ hlink) (hts _ hin2) (hts _ hm.1) hm.2.2.1 (n_back hM hm hts (Nat.le_trans hf hfr) (Nat.le_trans hl hlo)) rfl hl0.1 (argsL := []) (rest := rest)
    (fun sig hs => by have h2 := hm.2.2.2; rw [hs] at h2; exact (Option.some.inj h2).symm) rfl (by show 2 * 0 + _ ≤ 12; omega) (by rw [hb]; exact d)
    (fun vm₁ hW₁ => ⟨Nat.le_trans hc hmc, Nat.le_trans hs hms, rfl, by show T0.heap.size = _; rw [hT], by
        show va_P _ _ _ T0.heap
        rw [hT]
        intro k q hq
        rcases k with _ | k
        · have : x = q := by simpa using hq
          subst this
          exact hP _ _ hxl
        · simp at hq, va_K.moved hW₁.alike hK, ⟨fun i j y z hy hz e => by
          rcases i with _ | i <;> rcases j with _ | j <;> simp_all, fun _ _ _ => trivial⟩, NW.warm hW₁ hNW, va_AO.moved hW₁.alike hAO⟩)

