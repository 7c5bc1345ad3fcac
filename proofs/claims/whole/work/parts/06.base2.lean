/-! fields, arrays, calls, returns, loops over the abstract heap -/
theorem fvs_len (aD : Nat → Nat) (h : Hp) (c ci : Nat) : (fvs aD h c ci).length = (fk ci).length := mpx_len _ _ _
theorem fvs_at {aD : Nat → Nat} {h : Hp} {c ci k : Nat} {q : Nat × Nat} (hq : (fk ci)[k]? = some q) : (fvs aD h c ci)[k]? = some (if q.1 = 0 then .int (h.1 c k) else if q.1 = 1 then .long (h.2 c k) else .ref (aD (c + q.2))) := by
  unfold fvs
  rw [mpx_get0, hq]
  rfl
theorem fvs_sI {aD : Nat → Nat} {h : Hp} {c ci k : Nat} {v : Int32} {z : Nat} (hq : (fk ci)[k]? = some (0, z)) : fvs aD (sI h c k v) c ci = (fvs aD h c ci).set k (.int v) := by
  have hlt : k < (fk ci).length := (List.getElem?_eq_some_iff.mp hq).1
  apply List.ext_getElem?
  intro j
  rw [List.getElem?_set, fvs_len]
  by_cases hj : k = j
  · subst hj
    rw [if_pos rfl, if_pos hlt, fvs_at hq]
    simp [sI]
  · rw [if_neg hj]
    have hj2 : ¬ j = k := fun e => hj e.symm
    unfold fvs
    rw [mpx_get0, mpx_get0]
    cases (fk ci)[j]? with
    | none => rfl
    | some q => simp [sI, hj2]
theorem fvs_sJ {aD : Nat → Nat} {h : Hp} {c ci k : Nat} {v : Int64} {z : Nat} (hq : (fk ci)[k]? = some (1, z)) : fvs aD (sJ h c k v) c ci = (fvs aD h c ci).set k (.long v) := by
  have hlt : k < (fk ci).length := (List.getElem?_eq_some_iff.mp hq).1
  apply List.ext_getElem?
  intro j
  rw [List.getElem?_set, fvs_len]
  by_cases hj : k = j
  · subst hj
    rw [if_pos rfl, if_pos hlt, fvs_at hq]
    simp [sJ]
  · rw [if_neg hj]
    have hj2 : ¬ j = k := fun e => hj e.symm
    unfold fvs
    rw [mpx_get0, mpx_get0]
    cases (fk ci)[j]? with
    | none => rfl
    | some q => simp [sJ, hj2]
theorem cellOf_obj {cT : Nat → ClassId} {aD : Nat → Nat} {h : Hp} {c ci z : Nat} : cellOf cT aD h c (10 + ci, z) = .inr (ci, fvs aD h c ci) := by
  unfold cellOf
  dsimp only
  rw [if_neg (by omega), if_neg (by omega), if_neg (by omega), if_neg (by omega), show 10 + ci - 10 = ci by omega]
/-- a class: its tables -/
def KL (ci : Nat) (C : String) (T : u_T) (N : Nat) (ty : Nat → FieldType) : Prop := vwCl[ci]? = some (C, T, N) ∧ (∀ w ∈ u_ws C T N, w ∈ lw_gd) ∧ (∀ k, k < N → parseFieldDescriptor (T k).2.2.1 = some (ty k)) ∧ (∀ a, a < N → ∀ b, b < N → a ≠ b → (T a).2.1 ≠ (T b).2.1) ∧ (fk ci).length = N
/-- a field's entry: class ci, slot k, of which kind; final; its type -/
def FL (own : String) (index ci k : Nat) (q : Nat × Nat) (fin : Bool) (ft : FieldType) : Prop := ∃ (C : String) (T : u_T) (N : Nat) (ty : Nat → FieldType), KL ci C T N ty ∧ k < N ∧ Cond.fieldLink own index C (T k).2.1 (T k).2.2.1 ∈ lw_gd ∧ (fk ci)[k]? = some q ∧ (T k).2.2.2 = fin ∧ ty k = ft ∧ (T k).1 = C
theorem g_getI {K : gK} {own : String} {cc : ByteArray} {nL fr lo pc : Nat} {lv : List (Nat × Value)} {st : List Value} {h : Hp} {c ci k z index : Nat} {fin : Bool} {ft : FieldType} (S : Cx K own cc nL fr lo) (d : decode cc pc = .ok (.getfield index, 3)) (F : FL own index ci k (0, z) fin ft) (hk : kd c (10 + ci, 0)) (kk : Go K (pc + 3) lv (.int (h.1 c k) :: st) h) : Go K pc lv (.ref (ad K c) :: st) h := by
  obtain ⟨⟨p, l, e, R⟩, ⟨s, m, args, below⟩, ⟨meth, c0, cells, slots⟩, ⟨D, cT, aD, A⟩, Q⟩ := K
  obtain ⟨hx, hb, hml, hown, hts, hK, hJ, hA, hAs, hce, hsl, hfr, hlo, hNW⟩ := S
  obtain ⟨C, T, N, ty, ⟨k1, k2, k3, k4, k5⟩, hkN, hlink, hq, hfin, hft, hC⟩ := F
  intro H locs ls hl hP hS
  have he := conc_at (cT := cT) (ad := aD) (h := h) hk
  rw [cellOf_obj] at he
  exact va_get hx hb hts k2 hown hK hP c he k1 k hkN (hts _ hlink) (fun x hx => by rw [hC] at hx; exact hx) (fvs_at hq) d (kk H locs ls hl hP hS)
theorem g_getJ {K : gK} {own : String} {cc : ByteArray} {nL fr lo pc : Nat} {lv : List (Nat × Value)} {st : List Value} {h : Hp} {c ci k z index : Nat} {fin : Bool} {ft : FieldType} (S : Cx K own cc nL fr lo) (d : decode cc pc = .ok (.getfield index, 3)) (F : FL own index ci k (1, z) fin ft) (hk : kd c (10 + ci, 0)) (kk : Go K (pc + 3) lv (.long (h.2 c k) :: st) h) : Go K pc lv (.ref (ad K c) :: st) h := by
  obtain ⟨⟨p, l, e, R⟩, ⟨s, m, args, below⟩, ⟨meth, c0, cells, slots⟩, ⟨D, cT, aD, A⟩, Q⟩ := K
  obtain ⟨hx, hb, hml, hown, hts, hK, hJ, hA, hAs, hce, hsl, hfr, hlo, hNW⟩ := S
  obtain ⟨C, T, N, ty, ⟨k1, k2, k3, k4, k5⟩, hkN, hlink, hq, hfin, hft, hC⟩ := F
  intro H locs ls hl hP hS
  have he := conc_at (cT := cT) (ad := aD) (h := h) hk
  rw [cellOf_obj] at he
  exact va_get hx hb hts k2 hown hK hP c he k1 k hkN (hts _ hlink) (fun x hx => by rw [hC] at hx; exact hx) (fvs_at hq) d (kk H locs ls hl hP hS)
theorem g_getR {K : gK} {own : String} {cc : ByteArray} {nL fr lo pc : Nat} {lv : List (Nat × Value)} {st : List Value} {h : Hp} {c ci k z index : Nat} {fin : Bool} {ft : FieldType} (S : Cx K own cc nL fr lo) (d : decode cc pc = .ok (.getfield index, 3)) (F : FL own index ci k (2, z) fin ft) (hk : kd c (10 + ci, 0)) (kk : Go K (pc + 3) lv (.ref (ad K (c + z)) :: st) h) : Go K pc lv (.ref (ad K c) :: st) h := by
  obtain ⟨⟨p, l, e, R⟩, ⟨s, m, args, below⟩, ⟨meth, c0, cells, slots⟩, ⟨D, cT, aD, A⟩, Q⟩ := K
  obtain ⟨hx, hb, hml, hown, hts, hK, hJ, hA, hAs, hce, hsl, hfr, hlo, hNW⟩ := S
  obtain ⟨C, T, N, ty, ⟨k1, k2, k3, k4, k5⟩, hkN, hlink, hq, hfin, hft, hC⟩ := F
  intro H locs ls hl hP hS
  have he := conc_at (cT := cT) (ad := aD) (h := h) hk
  rw [cellOf_obj] at he
  exact va_get hx hb hts k2 hown hK hP c he k1 k hkN (hts _ hlink) (fun x hx => by rw [hC] at hx; exact hx) (fvs_at hq) d (kk H locs ls hl hP hS)
theorem g_putI {K : gK} {own : String} {cc : ByteArray} {nL fr lo pc : Nat} {lv : List (Nat × Value)} {st : List Value} {h : Hp} {β : Type} {X : β} {f : Hp → Option β} {v : Int32} {c ci k z index : Nat} (S : Cx K own cc nL fr lo) (d : decode cc pc = .ok (.putfield index, 3)) (F : FL own index ci k (0, z) false .int) (hk : kd c (10 + ci, 0)) (hyp : lt (sI h c k v) f = some X) (kk : ∀ h1, f h1 = some X → Go K (pc + 3) lv st h1) : Go K pc lv (.int v :: .ref (ad K c) :: st) h := by
  obtain ⟨⟨p, l, e, R⟩, ⟨s, m, args, below⟩, ⟨meth, c0, cells, slots⟩, ⟨D, cT, aD, A⟩, Q⟩ := K
  obtain ⟨hx, hb, hml, hown, hts, hK, hJ, hA, hAs, hce, hsl, hfr, hlo, hNW⟩ := S
  obtain ⟨C, T, N, ty, ⟨k1, k2, k3, k4, k5⟩, hkN, hlink, hq, hfin, hft, hC⟩ := F
  intro H locs ls hl hP hS
  have he := conc_at (cT := cT) (ad := aD) (h := h) hk
  rw [cellOf_obj] at he
  refine va_put (ty := .int) (v := .int v) hx hb hts k2 ty k3 k4 hown hK hP (conc_D hJ hA) hS c he k1 k hkN (hts _ hlink) (fun x hx => by rw [hC] at hx; exact hx) hfin (by rw [k3 k hkN, hft]) rfl rfl (by rw [fvs_len, k5]; exact hkN) d (fun H1 locs1 hP1 _ hS1 => ?_)
  rw [conc_set (h1 := sI h c k v) hk (by rw [cellOf_obj, fvs_sI hq]) (fun c' hc' => by simp [sI, hc']) (fun c' hc' => by simp [sI, hc'])] at hP1
  exact kk _ hyp H1 locs1 ls hl hP1 hS1
theorem g_putZ {K : gK} {own : String} {cc : ByteArray} {nL fr lo pc : Nat} {lv : List (Nat × Value)} {st : List Value} {h : Hp} {β : Type} {X : β} {f : Hp → Option β} {v : Int32} {c ci k z index : Nat} (S : Cx K own cc nL fr lo) (d : decode cc pc = .ok (.putfield index, 3)) (F : FL own index ci k (0, z) false .boolean) (hk : kd c (10 + ci, 0)) (hv : v = 0 ∨ v = 1) (hyp : lt (sI h c k v) f = some X) (kk : ∀ h1, f h1 = some X → Go K (pc + 3) lv st h1) : Go K pc lv (.int v :: .ref (ad K c) :: st) h := by
  obtain ⟨⟨p, l, e, R⟩, ⟨s, m, args, below⟩, ⟨meth, c0, cells, slots⟩, ⟨D, cT, aD, A⟩, Q⟩ := K
  obtain ⟨hx, hb, hml, hown, hts, hK, hJ, hA, hAs, hce, hsl, hfr, hlo, hNW⟩ := S
  obtain ⟨C, T, N, ty, ⟨k1, k2, k3, k4, k5⟩, hkN, hlink, hq, hfin, hft, hC⟩ := F
  intro H locs ls hl hP hS
  have he := conc_at (cT := cT) (ad := aD) (h := h) hk
  rw [cellOf_obj] at he
  refine va_put (ty := .boolean) (v := .int v) hx hb hts k2 ty k3 k4 hown hK hP (conc_D hJ hA) hS c he k1 k hkN (hts _ hlink) (fun x hx => by rw [hC] at hx; exact hx) hfin (by rw [k3 k hkN, hft]) (by rcases hv with rfl | rfl <;> rfl) (by rcases hv with rfl | rfl <;> rfl) (by rw [fvs_len, k5]; exact hkN) d (fun H1 locs1 hP1 _ hS1 => ?_)
  rw [conc_set (h1 := sI h c k v) hk (by rw [cellOf_obj, fvs_sI hq]) (fun c' hc' => by simp [sI, hc']) (fun c' hc' => by simp [sI, hc'])] at hP1
  exact kk _ hyp H1 locs1 ls hl hP1 hS1
theorem g_putJ {K : gK} {own : String} {cc : ByteArray} {nL fr lo pc : Nat} {lv : List (Nat × Value)} {st : List Value} {h : Hp} {β : Type} {X : β} {f : Hp → Option β} {v : Int64} {c ci k z index : Nat} (S : Cx K own cc nL fr lo) (d : decode cc pc = .ok (.putfield index, 3)) (F : FL own index ci k (1, z) false .long) (hk : kd c (10 + ci, 0)) (hyp : lt (sJ h c k v) f = some X) (kk : ∀ h1, f h1 = some X → Go K (pc + 3) lv st h1) : Go K pc lv (.long v :: .ref (ad K c) :: st) h := by
  obtain ⟨⟨p, l, e, R⟩, ⟨s, m, args, below⟩, ⟨meth, c0, cells, slots⟩, ⟨D, cT, aD, A⟩, Q⟩ := K
  obtain ⟨hx, hb, hml, hown, hts, hK, hJ, hA, hAs, hce, hsl, hfr, hlo, hNW⟩ := S
  obtain ⟨C, T, N, ty, ⟨k1, k2, k3, k4, k5⟩, hkN, hlink, hq, hfin, hft, hC⟩ := F
  intro H locs ls hl hP hS
  have he := conc_at (cT := cT) (ad := aD) (h := h) hk
  rw [cellOf_obj] at he
  refine va_put (ty := .long) (v := .long v) hx hb hts k2 ty k3 k4 hown hK hP (conc_D hJ hA) hS c he k1 k hkN (hts _ hlink) (fun x hx => by rw [hC] at hx; exact hx) hfin (by rw [k3 k hkN, hft]) rfl rfl (by rw [fvs_len, k5]; exact hkN) d (fun H1 locs1 hP1 _ hS1 => ?_)
  rw [conc_set (h1 := sJ h c k v) hk (by rw [cellOf_obj, fvs_sJ hq]) (fun c' hc' => by simp [sJ, hc']) (fun c' hc' => by simp [sJ, hc'])] at hP1
  exact kk _ hyp H1 locs1 ls hl hP1 hS1
theorem g_iald {K : gK} {own : String} {cc : ByteArray} {nL fr lo pc : Nat} {lv : List (Nat × Value)} {st : List Value} {h : Hp} {β : Type} {X : β} {f : Int32 → Option β} {c n : Nat} {i : Int32} (S : Cx K own cc nL fr lo) (d : decode cc pc = .ok (.iaload, 1)) (hk : kd c (0, n)) (hyp : ldI h c n i f = some X) (kk : ∀ v, f v = some X → Go K (pc + 1) lv (.int v :: st) h) : Go K pc lv (.int i :: .ref (ad K c) :: st) h := by
  obtain ⟨⟨p, l, e, R⟩, ⟨s, m, args, below⟩, ⟨meth, c0, cells, slots⟩, ⟨D, cT, aD, A⟩, Q⟩ := K
  obtain ⟨hx, hb, hml, hown, hts, hK, hJ, hA, hAs, hce, hsl, hfr, hlo, hNW⟩ := S
  intro H locs ls hl hP hS
  obtain ⟨hi, hyp⟩ := of_if hyp
  exact va_iald hx hb hK hP c 0 (conc_at hk) rfl hi d (kk _ hyp H locs ls hl hP hS)
theorem g_zald {K : gK} {own : String} {cc : ByteArray} {nL fr lo pc : Nat} {lv : List (Nat × Value)} {st : List Value} {h : Hp} {β : Type} {X : β} {f : Int32 → Option β} {c n : Nat} {i : Int32} (S : Cx K own cc nL fr lo) (d : decode cc pc = .ok (.baload, 1)) (hk : kd c (1, n)) (hyp : ldI h c n i f = some X) (kk : ∀ v, f v = some X → Go K (pc + 1) lv (.int v :: st) h) : Go K pc lv (.int i :: .ref (ad K c) :: st) h := by
  obtain ⟨⟨p, l, e, R⟩, ⟨s, m, args, below⟩, ⟨meth, c0, cells, slots⟩, ⟨D, cT, aD, A⟩, Q⟩ := K
  obtain ⟨hx, hb, hml, hown, hts, hK, hJ, hA, hAs, hce, hsl, hfr, hlo, hNW⟩ := S
  intro H locs ls hl hP hS
  obtain ⟨hi, hyp⟩ := of_if hyp
  exact va_zald hx hb hK hP c 1 (conc_at hk) rfl hi d (kk _ hyp H locs ls hl hP hS)
theorem g_lald {K : gK} {own : String} {cc : ByteArray} {nL fr lo pc : Nat} {lv : List (Nat × Value)} {st : List Value} {h : Hp} {β : Type} {X : β} {f : Int64 → Option β} {c n : Nat} {i : Int32} (S : Cx K own cc nL fr lo) (d : decode cc pc = .ok (.laload, 1)) (hk : kd c (2, n)) (hyp : ldJ h c n i f = some X) (kk : ∀ v, f v = some X → Go K (pc + 1) lv (.long v :: st) h) : Go K pc lv (.int i :: .ref (ad K c) :: st) h := by
  obtain ⟨⟨p, l, e, R⟩, ⟨s, m, args, below⟩, ⟨meth, c0, cells, slots⟩, ⟨D, cT, aD, A⟩, Q⟩ := K
  obtain ⟨hx, hb, hml, hown, hts, hK, hJ, hA, hAs, hce, hsl, hfr, hlo, hNW⟩ := S
  intro H locs ls hl hP hS
  obtain ⟨hi, hyp⟩ := of_if hyp
  exact va_lald hx hb hK hP c 2 (conc_at hk) rfl hi d (kk _ hyp H locs ls hl hP hS)
theorem g_aald {K : gK} {own : String} {cc : ByteArray} {nL fr lo pc : Nat} {lv : List (Nat × Value)} {st : List Value} {h : Hp} {β : Type} {X : β} {f : Nat → Option β} {c : Nat} {i : Int32} (S : Cx K own cc nL fr lo) (d : decode cc pc = .ok (.aaload, 1)) (hk : kd c (3, 2)) (hyp : ldR c i f = some X) (kk : ∀ v, f v = some X → (v = c + 1 ∨ v = c + 7) → Go K (pc + 1) lv (.ref (ad K v) :: st) h) : Go K pc lv (.int i :: .ref (ad K c) :: st) h := by
  obtain ⟨⟨p, l, e, R⟩, ⟨s, m, args, below⟩, ⟨meth, c0, cells, slots⟩, ⟨D, cT, aD, A⟩, Q⟩ := K
  obtain ⟨hx, hb, hml, hown, hts, hK, hJ, hA, hAs, hce, hsl, hfr, hlo, hNW⟩ := S
  intro H locs ls hl hP hS
  obtain ⟨hi, hyp⟩ := of_if hyp
  have hlt : i.toNatClampNeg < 2 := Nat.not_le.mp fun q => hi (Or.inr q)
  have kk2 := kk _ hyp (by omega) H locs ls hl hP hS
  refine va_aldq (C := "BoundProofs$Problem") hx hb hK hP c 3 (conc_at hk) rfl hi d ?_
  rw [if_pos hlt]
  exact kk2
theorem g_iast {K : gK} {own : String} {cc : ByteArray} {nL fr lo pc : Nat} {lv : List (Nat × Value)} {st : List Value} {h : Hp} {β : Type} {X : β} {f : Hp → Option β} {c n : Nat} {i : Int32} {v : Int32} (S : Cx K own cc nL fr lo) (d : decode cc pc = .ok (.iastore, 1)) (hk : kd c (0, n)) (hyp : stI h c n i v f = some X) (kk : ∀ h1, f h1 = some X → Go K (pc + 1) lv st h1) : Go K pc lv (.int v :: .int i :: .ref (ad K c) :: st) h := by
  obtain ⟨⟨p, l, e, R⟩, ⟨s, m, args, below⟩, ⟨meth, c0, cells, slots⟩, ⟨D, cT, aD, A⟩, Q⟩ := K
  obtain ⟨hx, hb, hml, hown, hts, hK, hJ, hA, hAs, hce, hsl, hfr, hlo, hNW⟩ := S
  intro H locs ls hl hP hS
  obtain ⟨hi, hyp⟩ := of_if hyp
  refine va_iast hx hb hK hP (conc_D hJ hA) hS c 0 (conc_at hk) rfl hi d (fun H1 locs1 hP1 _ hS1 => ?_)
  rw [conc_set (h1 := sI h c i.toNatClampNeg v) hk (by unfold cellOf; simp [sI]; funext j; simp [upd]) (fun c' hc' => by simp [sI, hc']) (fun c' hc' => by simp [sI, hc'])] at hP1
  exact kk _ hyp H1 locs1 ls hl hP1 hS1
theorem g_zast {K : gK} {own : String} {cc : ByteArray} {nL fr lo pc : Nat} {lv : List (Nat × Value)} {st : List Value} {h : Hp} {β : Type} {X : β} {f : Hp → Option β} {c n : Nat} {i : Int32} {v : Int32} (S : Cx K own cc nL fr lo) (d : decode cc pc = .ok (.bastore, 1)) (hk : kd c (1, n)) (hv : v = 0 ∨ v = 1) (hyp : stI h c n i v f = some X) (kk : ∀ h1, f h1 = some X → Go K (pc + 1) lv st h1) : Go K pc lv (.int v :: .int i :: .ref (ad K c) :: st) h := by
  obtain ⟨⟨p, l, e, R⟩, ⟨s, m, args, below⟩, ⟨meth, c0, cells, slots⟩, ⟨D, cT, aD, A⟩, Q⟩ := K
  obtain ⟨hx, hb, hml, hown, hts, hK, hJ, hA, hAs, hce, hsl, hfr, hlo, hNW⟩ := S
  intro H locs ls hl hP hS
  obtain ⟨hi, hyp⟩ := of_if hyp
  refine va_zast hx hb hK hP (conc_D hJ hA) hS c 1 (conc_at hk) rfl hi d (fun H1 locs1 hP1 _ hS1 => ?_)
  rw [conc_set (h1 := sI h c i.toNatClampNeg v) hk (by unfold cellOf; simp [sI]; funext j; rcases hv with rfl | rfl <;> simp [upd, vp_nar, narrow]) (fun c' hc' => by simp [sI, hc']) (fun c' hc' => by simp [sI, hc'])] at hP1
  exact kk _ hyp H1 locs1 ls hl hP1 hS1
theorem g_last {K : gK} {own : String} {cc : ByteArray} {nL fr lo pc : Nat} {lv : List (Nat × Value)} {st : List Value} {h : Hp} {β : Type} {X : β} {f : Hp → Option β} {c n : Nat} {i : Int32} {v : Int64} (S : Cx K own cc nL fr lo) (d : decode cc pc = .ok (.lastore, 1)) (hk : kd c (2, n)) (hyp : stJ h c n i v f = some X) (kk : ∀ h1, f h1 = some X → Go K (pc + 1) lv st h1) : Go K pc lv (.long v :: .int i :: .ref (ad K c) :: st) h := by
  obtain ⟨⟨p, l, e, R⟩, ⟨s, m, args, below⟩, ⟨meth, c0, cells, slots⟩, ⟨D, cT, aD, A⟩, Q⟩ := K
  obtain ⟨hx, hb, hml, hown, hts, hK, hJ, hA, hAs, hce, hsl, hfr, hlo, hNW⟩ := S
  intro H locs ls hl hP hS
  obtain ⟨hi, hyp⟩ := of_if hyp
  refine va_last hx hb hK hP (conc_D hJ hA) hS c 2 (conc_at hk) rfl hi d (fun H1 locs1 hP1 _ hS1 => ?_)
  rw [conc_set (h1 := sJ h c i.toNatClampNeg v) hk (by unfold cellOf; simp [sJ]; funext j; simp [vp_updL]) (fun c' hc' => by simp [sJ, hc']) (fun c' hc' => by simp [sJ, hc'])] at hP1
  exact kk _ hyp H1 locs1 ls hl hP1 hS1
theorem g_alen {K : gK} {own : String} {cc : ByteArray} {nL fr lo pc : Nat} {lv : List (Nat × Value)} {st : List Value} {h : Hp} {c t n : Nat} {v : Int32} (S : Cx K own cc nL fr lo) (d : decode cc pc = .ok (.arraylength, 1)) (hk : kd c (t, n)) (ht : t = 0 ∨ t = 1 ∨ t = 2 ∨ t = 3) (hv : Int32.ofNat n = v) (kk : Go K (pc + 1) lv (.int v :: st) h) : Go K pc lv (.ref (ad K c) :: st) h := by
  obtain ⟨⟨p, l, e, R⟩, ⟨s, m, args, below⟩, ⟨meth, c0, cells, slots⟩, ⟨D, cT, aD, A⟩, Q⟩ := K
  obtain ⟨hx, hb, hml, hown, hts, hK, hJ, hA, hAs, hce, hsl, hfr, hlo, hNW⟩ := S
  intro H locs ls hl hP hS
  have he := conc_at (cT := cT) (ad := aD) (h := h) hk
  rcases ht with rfl | rfl | rfl | rfl
  · exact va_alen hx hb hK hP c 0 he rfl hv d (kk H locs ls hl hP hS)
  · exact va_alen hx hb hK hP c 1 he rfl hv d (kk H locs ls hl hP hS)
  · exact va_alen hx hb hK hP c 2 he rfl hv d (kk H locs ls hl hP hS)
  · exact va_alen hx hb hK hP c 3 he rfl hv d (kk H locs ls hl hP hS)
theorem g_ckB {β : Type} {X : β} {k : Option β} {v : Int32} {G : Prop} (hyp : ckB v k = some X) (kk : (v = 0 ∨ v = 1) → k = some X → G) : G := by
  obtain ⟨h1, h2⟩ := of_if hyp
  exact kk h1 h2
theorem g_nzI {β : Type} {X : β} {k : Option β} {v : Int32} {G : Prop} (hyp : nzI v k = some X) (kk : ¬ v = 0 → k = some X → G) : G := by
  unfold nzI at hyp
  by_cases hv : v = 0
  · rw [if_pos hv] at hyp; cases hyp
  · rw [if_neg hv] at hyp; exact kk hv hyp
theorem g_nzJ {β : Type} {X : β} {k : Option β} {v : Int64} {G : Prop} (hyp : nzJ v k = some X) (kk : ¬ v = 0 → k = some X → G) : G := by
  unfold nzJ at hyp
  by_cases hv : v = 0
  · rw [if_pos hv] at hyp; cases hyp
  · rw [if_neg hv] at hyp; exact kk hv hyp
theorem g_idiv {K : gK} {own : String} {cc : ByteArray} {nL fr lo pc : Nat} {lv : List (Nat × Value)} {st : List Value} {h : Hp} {x y : Int32} (S : Cx K own cc nL fr lo) (d : decode cc pc = .ok (.idiv, 1)) (hv : ¬ y = 0) (k : Go K (pc + 1) lv (.int (x / y) :: st) h) : Go K pc lv (.int y :: .int x :: st) h := by
  obtain ⟨⟨p, l, e, R⟩, ⟨s, m, args, below⟩, ⟨meth, c0, cells, slots⟩, ⟨D, cT, aD, A⟩, Q⟩ := K
  obtain ⟨hx, hb, hml, hown, hts, hK, hJ, hA, hAs, hce, hsl, hfr, hlo, hNW⟩ := S
  exact fun H locs ls hl hP hS => lv_idiv hx hb d hv (k H locs ls hl hP hS)
theorem g_irem {K : gK} {own : String} {cc : ByteArray} {nL fr lo pc : Nat} {lv : List (Nat × Value)} {st : List Value} {h : Hp} {x y : Int32} (S : Cx K own cc nL fr lo) (d : decode cc pc = .ok (.irem, 1)) (hv : ¬ y = 0) (k : Go K (pc + 1) lv (.int (x - x / y * y) :: st) h) : Go K pc lv (.int y :: .int x :: st) h := by
  obtain ⟨⟨p, l, e, R⟩, ⟨s, m, args, below⟩, ⟨meth, c0, cells, slots⟩, ⟨D, cT, aD, A⟩, Q⟩ := K
  obtain ⟨hx, hb, hml, hown, hts, hK, hJ, hA, hAs, hce, hsl, hfr, hlo, hNW⟩ := S
  exact fun H locs ls hl hP hS => lv_irem hx hb d hv (k H locs ls hl hP hS)
theorem g_ldiv {K : gK} {own : String} {cc : ByteArray} {nL fr lo pc : Nat} {lv : List (Nat × Value)} {st : List Value} {h : Hp} {x y : Int64} (S : Cx K own cc nL fr lo) (d : decode cc pc = .ok (.ldiv, 1)) (hv : ¬ y = 0) (k : Go K (pc + 1) lv (.long (x / y) :: st) h) : Go K pc lv (.long y :: .long x :: st) h := by
  obtain ⟨⟨p, l, e, R⟩, ⟨s, m, args, below⟩, ⟨meth, c0, cells, slots⟩, ⟨D, cT, aD, A⟩, Q⟩ := K
  obtain ⟨hx, hb, hml, hown, hts, hK, hJ, hA, hAs, hce, hsl, hfr, hlo, hNW⟩ := S
  exact fun H locs ls hl hP hS => lv_ldiv hx hb d hv (k H locs ls hl hP hS)
theorem g_lrem {K : gK} {own : String} {cc : ByteArray} {nL fr lo pc : Nat} {lv : List (Nat × Value)} {st : List Value} {h : Hp} {x y : Int64} (S : Cx K own cc nL fr lo) (d : decode cc pc = .ok (.lrem, 1)) (hv : ¬ y = 0) (k : Go K (pc + 1) lv (.long (x - x / y * y) :: st) h) : Go K pc lv (.long y :: .long x :: st) h := by
  obtain ⟨⟨p, l, e, R⟩, ⟨s, m, args, below⟩, ⟨meth, c0, cells, slots⟩, ⟨D, cT, aD, A⟩, Q⟩ := K
  obtain ⟨hx, hb, hml, hown, hts, hK, hJ, hA, hAs, hce, hsl, hfr, hlo, hNW⟩ := S
  exact fun H locs ls hl hP hS => lv_lrem hx hb d hv (k H locs ls hl hP hS)
theorem lgc_eq (x y : Int64) : lg_cmp x y = 0 ↔ x = y := by
  unfold lg_cmp
  by_cases h1 : x > y
  · rw [if_pos h1]
    exact ⟨fun h => absurd h (by decide), fun h => absurd (h ▸ h1) (Int64.lt_irrefl)⟩
  · rw [if_neg h1]
    by_cases h2 : x = y
    · simp [h2]
    · rw [if_neg h2]
      exact ⟨fun h => absurd h (by decide), fun h => absurd h h2⟩
theorem lgc_gt (x y : Int64) : 0 < lg_cmp x y ↔ y < x := by
  unfold lg_cmp
  by_cases h1 : x > y
  · rw [if_pos h1]
    exact ⟨fun _ => h1, fun _ => by decide⟩
  · rw [if_neg h1]
    by_cases h2 : x = y
    · rw [if_pos h2]
      exact ⟨fun h => absurd h (by decide), fun h => absurd h h1⟩
    · rw [if_neg h2]
      exact ⟨fun h => absurd h (by decide), fun h => absurd h h1⟩
theorem lgc_lt (x y : Int64) : lg_cmp x y < 0 ↔ x < y := by
  unfold lg_cmp
  by_cases h1 : x > y
  · rw [if_pos h1]
    exact ⟨fun h => absurd h (by decide), fun h => absurd h1 (Int64.not_lt.mpr (Int64.le_of_lt h))⟩
  · rw [if_neg h1]
    by_cases h2 : x = y
    · rw [if_pos h2]
      exact ⟨fun h => absurd h (by decide), fun h => absurd (h2 ▸ h) (Int64.lt_irrefl)⟩
    · rw [if_neg h2]
      refine ⟨fun _ => ?_, fun _ => by decide⟩
      rcases Int64.lt_or_eq_of_le (Int64.not_lt.mp h1) with q | q
      · exact q
      · exact absurd q h2
theorem g_lcmp_eq {K : gK} {own : String} {cc : ByteArray} {nL fr lo pc : Nat} {lv : List (Nat × Value)} {st : List Value} {h : Hp} {x y : Int64} {off : Int} {tgt : Nat} {α : Type} {X : α} {A0 B0 : Option α} (S : Cx K own cc nL fr lo) (d : decode cc pc = .ok (.lcmp, 1)) (d2 : decode cc (pc + 1) = .ok (.ifCond .eq off, 3)) (ht : ((pc + 1 : Nat) : Int) + off = (tgt : Int)) (hyp : (if x = y then A0 else B0) = some X) (kt : A0 = some X → Go K tgt lv st h) (kf : B0 = some X → Go K (pc + 1 + 3) lv st h) : Go K pc lv (.long y :: .long x :: st) h := by
  have hc : (lg_cmp x y = 0 ↔ x = y) := lgc_eq x y
  have key : Go K (pc + 1) lv (.int (lg_cmp x y) :: st) h := by
    refine g_if_eq (A0 := A0) (B0 := B0) S d2 ht ?_ kt kf
    by_cases q : x = y
    · rw [if_pos q] at hyp
      rw [if_pos (hc.mpr q)]; exact hyp
    · rw [if_neg q] at hyp
      rw [if_neg (fun z => q (hc.mp z))]; exact hyp
  obtain ⟨⟨p, l, e, R⟩, ⟨s, m, args, below⟩, ⟨meth, c0, cells, slots⟩, ⟨D, cT, aD, A⟩, Q⟩ := K
  obtain ⟨hx, hb, hml, hown, hts, hK, hJ, hA, hAs, hce, hsl, hfr, hlo, hNW⟩ := S
  exact fun H locs ls hl hP hS => W.lcmp hx hb d (key H locs ls hl hP hS)
theorem g_lcmp_ne {K : gK} {own : String} {cc : ByteArray} {nL fr lo pc : Nat} {lv : List (Nat × Value)} {st : List Value} {h : Hp} {x y : Int64} {off : Int} {tgt : Nat} {α : Type} {X : α} {A0 B0 : Option α} (S : Cx K own cc nL fr lo) (d : decode cc pc = .ok (.lcmp, 1)) (d2 : decode cc (pc + 1) = .ok (.ifCond .ne off, 3)) (ht : ((pc + 1 : Nat) : Int) + off = (tgt : Int)) (hyp : (if x = y then A0 else B0) = some X) (kt : A0 = some X → Go K (pc + 1 + 3) lv st h) (kf : B0 = some X → Go K tgt lv st h) : Go K pc lv (.long y :: .long x :: st) h := by
  have hc : (lg_cmp x y = 0 ↔ x = y) := lgc_eq x y
  have key : Go K (pc + 1) lv (.int (lg_cmp x y) :: st) h := by
    refine g_if_ne (A0 := A0) (B0 := B0) S d2 ht ?_ kt kf
    by_cases q : x = y
    · rw [if_pos q] at hyp
      rw [if_pos (hc.mpr q)]; exact hyp
    · rw [if_neg q] at hyp
      rw [if_neg (fun z => q (hc.mp z))]; exact hyp
  obtain ⟨⟨p, l, e, R⟩, ⟨s, m, args, below⟩, ⟨meth, c0, cells, slots⟩, ⟨D, cT, aD, A⟩, Q⟩ := K
  obtain ⟨hx, hb, hml, hown, hts, hK, hJ, hA, hAs, hce, hsl, hfr, hlo, hNW⟩ := S
  exact fun H locs ls hl hP hS => W.lcmp hx hb d (key H locs ls hl hP hS)
theorem g_lcmp_lt {K : gK} {own : String} {cc : ByteArray} {nL fr lo pc : Nat} {lv : List (Nat × Value)} {st : List Value} {h : Hp} {x y : Int64} {off : Int} {tgt : Nat} {α : Type} {X : α} {A0 B0 : Option α} (S : Cx K own cc nL fr lo) (d : decode cc pc = .ok (.lcmp, 1)) (d2 : decode cc (pc + 1) = .ok (.ifCond .lt off, 3)) (ht : ((pc + 1 : Nat) : Int) + off = (tgt : Int)) (hyp : (if x < y then A0 else B0) = some X) (kt : A0 = some X → Go K tgt lv st h) (kf : B0 = some X → Go K (pc + 1 + 3) lv st h) : Go K pc lv (.long y :: .long x :: st) h := by
  have hc : (lg_cmp x y < 0 ↔ x < y) := lgc_lt x y
  have key : Go K (pc + 1) lv (.int (lg_cmp x y) :: st) h := by
    refine g_if_lt (A0 := A0) (B0 := B0) S d2 ht ?_ kt kf
    by_cases q : x < y
    · rw [if_pos q] at hyp
      rw [if_pos (hc.mpr q)]; exact hyp
    · rw [if_neg q] at hyp
      rw [if_neg (fun z => q (hc.mp z))]; exact hyp
  obtain ⟨⟨p, l, e, R⟩, ⟨s, m, args, below⟩, ⟨meth, c0, cells, slots⟩, ⟨D, cT, aD, A⟩, Q⟩ := K
  obtain ⟨hx, hb, hml, hown, hts, hK, hJ, hA, hAs, hce, hsl, hfr, hlo, hNW⟩ := S
  exact fun H locs ls hl hP hS => W.lcmp hx hb d (key H locs ls hl hP hS)
theorem g_lcmp_ge {K : gK} {own : String} {cc : ByteArray} {nL fr lo pc : Nat} {lv : List (Nat × Value)} {st : List Value} {h : Hp} {x y : Int64} {off : Int} {tgt : Nat} {α : Type} {X : α} {A0 B0 : Option α} (S : Cx K own cc nL fr lo) (d : decode cc pc = .ok (.lcmp, 1)) (d2 : decode cc (pc + 1) = .ok (.ifCond .ge off, 3)) (ht : ((pc + 1 : Nat) : Int) + off = (tgt : Int)) (hyp : (if x < y then A0 else B0) = some X) (kt : A0 = some X → Go K (pc + 1 + 3) lv st h) (kf : B0 = some X → Go K tgt lv st h) : Go K pc lv (.long y :: .long x :: st) h := by
  have hc : (lg_cmp x y < 0 ↔ x < y) := lgc_lt x y
  have key : Go K (pc + 1) lv (.int (lg_cmp x y) :: st) h := by
    refine g_if_ge (A0 := A0) (B0 := B0) S d2 ht ?_ kt kf
    by_cases q : x < y
    · rw [if_pos q] at hyp
      rw [if_pos (hc.mpr q)]; exact hyp
    · rw [if_neg q] at hyp
      rw [if_neg (fun z => q (hc.mp z))]; exact hyp
  obtain ⟨⟨p, l, e, R⟩, ⟨s, m, args, below⟩, ⟨meth, c0, cells, slots⟩, ⟨D, cT, aD, A⟩, Q⟩ := K
  obtain ⟨hx, hb, hml, hown, hts, hK, hJ, hA, hAs, hce, hsl, hfr, hlo, hNW⟩ := S
  exact fun H locs ls hl hP hS => W.lcmp hx hb d (key H locs ls hl hP hS)
theorem g_lcmp_gt {K : gK} {own : String} {cc : ByteArray} {nL fr lo pc : Nat} {lv : List (Nat × Value)} {st : List Value} {h : Hp} {x y : Int64} {off : Int} {tgt : Nat} {α : Type} {X : α} {A0 B0 : Option α} (S : Cx K own cc nL fr lo) (d : decode cc pc = .ok (.lcmp, 1)) (d2 : decode cc (pc + 1) = .ok (.ifCond .gt off, 3)) (ht : ((pc + 1 : Nat) : Int) + off = (tgt : Int)) (hyp : (if y < x then A0 else B0) = some X) (kt : A0 = some X → Go K tgt lv st h) (kf : B0 = some X → Go K (pc + 1 + 3) lv st h) : Go K pc lv (.long y :: .long x :: st) h := by
  have hc : (0 < lg_cmp x y ↔ y < x) := lgc_gt x y
  have key : Go K (pc + 1) lv (.int (lg_cmp x y) :: st) h := by
    refine g_if_gt (A0 := A0) (B0 := B0) S d2 ht ?_ kt kf
    by_cases q : y < x
    · rw [if_pos q] at hyp
      rw [if_pos (hc.mpr q)]; exact hyp
    · rw [if_neg q] at hyp
      rw [if_neg (fun z => q (hc.mp z))]; exact hyp
  obtain ⟨⟨p, l, e, R⟩, ⟨s, m, args, below⟩, ⟨meth, c0, cells, slots⟩, ⟨D, cT, aD, A⟩, Q⟩ := K
  obtain ⟨hx, hb, hml, hown, hts, hK, hJ, hA, hAs, hce, hsl, hfr, hlo, hNW⟩ := S
  exact fun H locs ls hl hP hS => W.lcmp hx hb d (key H locs ls hl hP hS)
theorem g_lcmp_le {K : gK} {own : String} {cc : ByteArray} {nL fr lo pc : Nat} {lv : List (Nat × Value)} {st : List Value} {h : Hp} {x y : Int64} {off : Int} {tgt : Nat} {α : Type} {X : α} {A0 B0 : Option α} (S : Cx K own cc nL fr lo) (d : decode cc pc = .ok (.lcmp, 1)) (d2 : decode cc (pc + 1) = .ok (.ifCond .le off, 3)) (ht : ((pc + 1 : Nat) : Int) + off = (tgt : Int)) (hyp : (if y < x then A0 else B0) = some X) (kt : A0 = some X → Go K (pc + 1 + 3) lv st h) (kf : B0 = some X → Go K tgt lv st h) : Go K pc lv (.long y :: .long x :: st) h := by
  have hc : (0 < lg_cmp x y ↔ y < x) := lgc_gt x y
  have key : Go K (pc + 1) lv (.int (lg_cmp x y) :: st) h := by
    refine g_if_le (A0 := A0) (B0 := B0) S d2 ht ?_ kt kf
    by_cases q : y < x
    · rw [if_pos q] at hyp
      rw [if_pos (hc.mpr q)]; exact hyp
    · rw [if_neg q] at hyp
      rw [if_neg (fun z => q (hc.mp z))]; exact hyp
  obtain ⟨⟨p, l, e, R⟩, ⟨s, m, args, below⟩, ⟨meth, c0, cells, slots⟩, ⟨D, cT, aD, A⟩, Q⟩ := K
  obtain ⟨hx, hb, hml, hown, hts, hK, hJ, hA, hAs, hce, hsl, hfr, hlo, hNW⟩ := S
  exact fun H locs ls hl hP hS => W.lcmp hx hb d (key H locs ls hl hP hS)
theorem g_ldc2 {K : gK} {own : String} {cc : ByteArray} {nL fr lo pc : Nat} {lv : List (Nat × Value)} {st : List Value} {h : Hp} {index : Nat} {v : Int64} (S : Cx K own cc nL fr lo) (d : decode cc pc = .ok (.ldc2_w index, 3)) (hc : Cond.constantLong own index v ∈ lw_gd) (k : Go K (pc + 3) lv (.long v :: st) h) : Go K pc lv st h := by
  obtain ⟨⟨p, l, e, R⟩, ⟨s, m, args, below⟩, ⟨meth, c0, cells, slots⟩, ⟨D, cT, aD, A⟩, Q⟩ := K
  obtain ⟨hx, hb, hml, hown, hts, hK, hJ, hA, hAs, hce, hsl, hfr, hlo, hNW⟩ := S
  exact fun H locs ls hl hP hS => lv_ldc2 hx hb hown (hts _ hc) d (k H locs ls hl hP hS)
theorem g_ldcw {K : gK} {own : String} {cc : ByteArray} {nL fr lo pc : Nat} {lv : List (Nat × Value)} {st : List Value} {h : Hp} {index : Nat} {v : Int32} (S : Cx K own cc nL fr lo) (d : decode cc pc = .ok (.ldc_w index, 3)) (hc : Cond.constant own index v ∈ lw_gd) (k : Go K (pc + 3) lv (.int v :: st) h) : Go K pc lv st h := by
  obtain ⟨⟨p, l, e, R⟩, ⟨s, m, args, below⟩, ⟨meth, c0, cells, slots⟩, ⟨D, cT, aD, A⟩, Q⟩ := K
  obtain ⟨hx, hb, hml, hown, hts, hK, hJ, hA, hAs, hce, hsl, hfr, hlo, hNW⟩ := S
  exact fun H locs ls hl hP hS => lv_ldcw hx hb hown (hts _ hc) d (k H locs ls hl hP hS)
theorem g_iushr {K : gK} {own : String} {cc : ByteArray} {nL fr lo pc : Nat} {lv : List (Nat × Value)} {st : List Value} {h : Hp} {x y : Int32} (S : Cx K own cc nL fr lo) (d : decode cc pc = .ok (.iushr, 1)) (k : Go K (pc + 1) lv (.int (x.toUInt32 >>> (y.toUInt32 &&& 31)).toInt32 :: st) h) : Go K pc lv (.int y :: .int x :: st) h := by
  obtain ⟨⟨p, l, e, R⟩, ⟨s, m, args, below⟩, ⟨meth, c0, cells, slots⟩, ⟨D, cT, aD, A⟩, Q⟩ := K
  obtain ⟨hx, hb, hml, hown, hts, hK, hJ, hA, hAs, hce, hsl, hfr, hlo, hNW⟩ := S
  exact fun H locs ls hl hP hS => lv_iushr hx hb d rfl (k H locs ls hl hP hS)
/-! contracts: a method's answer and the heap behind it -/
def AA (aD : Nat → Nat) (sz : Nat) : Nat → Prop := fun q => (∃ i, i < kdL.length ∧ q = aD i) ∨ sz ≤ q
def wsOf (y : MethodName) (bytes : ByteArray) (maxL : Nat) (ret : Option FieldType) : List Cond := .code y bytes maxL ret :: lw_gd
def Qm (D : va_G) (cT : Nat → ClassId) (aD : Nat → Nat) (sz : Nat) (r : Option Value) (h' : Hp) : Array Value → State → Outcome → State → Prop := fun _ st o t => o = .returned r ∧ va_P D vwCl (conc cT aD h') t.heap ∧ va_F (AA aD sz) st t
def Bm (D : va_G) (cT : Nat → ClassId) (aD : Nat → Nat) (sz : Nat) (h : Hp) : State → Prop := fun U => U.heap.size = sz ∧ va_P D vwCl (conc cT aD h) U.heap ∧ va_K D vwCl (tysOf cT) U ∧ (∀ i j : Nat, i < kdL.length → j < kdL.length → aD i = aD j → i = j) ∧ NW U
def Ok (l : Launch) (D : va_G) (cT : Nat → ClassId) (aD : Nat → Nat) (y : MethodName) (bytes : ByteArray) (maxL : Nat) (ret : Option FieldType) (fr lo : Nat) (av : List Value) (h : Hp) (r : Option Value) (h' : Hp) : Prop :=
  ∀ sz, Met l y (wsOf y bytes maxL ret) { frames := fr, cells := 0, slots := 0, locals := lo } (va_Pc av (Bm D cT aD sz h)) (Qm D cT aD sz r h') 0 0 (AA aD sz)
/-- the end of a method that answers r and leaves the heap h' -/
def Rt (K : gK) (ret : Option FieldType) (r : Option Value) (h' : Hp) : Prop :=
  match K with
  | ((_, _, _, _), (s, _, args, below), (meth, _, cells, slots), (D, cT, aD, A), Q) =>
    meth.sig.returnType = ret ∧ meth.locks = false ∧ ∃ Qc, Q = MQ below Qc args s cells slots A ∧ ∀ t : State, va_P D vwCl (conc cT aD h') t.heap → s.WarmedH t.vm → va_F A s t → Qc args s (.returned r) t
theorem ofWF {l : Launch} {y : MethodName} {ws ws' : List Cond} {rm : Room} {Pc : Array Value → State → Prop} {Qc : Array Value → State → Outcome → State → Prop} {mc ms : Nat} {free : Addr → Prop} {cc : ByteArray} {maxL : Nat} {ret : Option FieldType}
    (hy : plainFor y = true) (hw : ws = Cond.code y cc maxL ret :: ws')
    (body : ∀ p e s m args below meth c s₁, BodyLoose p l y (headSpec ws rm) cc maxL ret e s m args below meth c s₁ → c.maxLocals = maxL → Pc args s →
      W p l e (headSpec ws rm).room s m args below meth c s.heap [] 0 0 (MQ below Qc args s mc ms free) (entryFrame m args maxL)) : Met l y ws rm Pc Qc mc ms free := by
  refine MetFree.of_bodySF (code := cc) (maxLocals := maxL) (ret := ret) hy ?_ ?_
  · intro args s m h hn
    obtain ⟨meth, c, h1, h2, h3, h4, h5, h6, -, -⟩ := Cond.code_spec hn (atoms_spec (ws := ws) h _ (by rw [hw]; exact List.mem_cons_self))
    exact ⟨meth, c, h1, h2, h3, h4, h5, h6⟩
  · intro p e s m args below meth c s₁ B hml hP _
    have hh0 : s₁.heap = s.heap := by rw [B.state]; rfl
    obtain ⟨t, a1, o, b1, b2, b3⟩ := body p e s m args below meth c s₁ B hml hP s₁ hh0 (Stand.of_body B)
    exact ⟨t, o, a1, b1, b2, ⟨b3.1, b3.2⟩⟩
theorem Ok.of {l : Launch} {D : va_G} {cT : Nat → ClassId} {aD : Nat → Nat} {y : MethodName} {bytes : ByteArray} {maxL : Nat} {ret : Option FieldType} {fr lo : Nat} {av : List Value} {h : Hp} {r : Option Value} {h' : Hp} {lv : List (Nat × Value)}
    (hy : plainFor y = true) (hlv : lv_args 0 av = lv) (hlen : (lg_sl av).length ≤ maxL)
    (body : ∀ K : gK, ad K = aD → K.1.2.1 = l → K.2.2.2.1.1 = D → K.2.2.2.1.2.1 = cT → Cx K y.cls bytes maxL fr lo → Rt K ret r h' → Go K 0 lv [] h) : Ok l D cT aD y bytes maxL ret fr lo av h r h' := by
  intro sz
  refine ofWF (cc := bytes) (maxL := maxL) (ret := ret) hy rfl ?_
  intro p e s m args below meth c s₁ B hml hv
  obtain ⟨rfl, hsz, hP, hK, hJ, hNW⟩ := hv
  have hts : ∀ w ∈ wsOf y bytes maxL ret, w.before av.toArray s = true := atoms_spec (ws := wsOf y bytes maxL ret) B.pre
  have hown : s.vm.findClass y.cls = some m.cls := findClass_of_methodNamed B.named
  subst hsz
  have hl := lv_entry av (n := maxL) hlen
  rw [lg_entry_eq]
  rw [hlv, ← hml] at hl
  rw [← hml]
  have key := body ((p, l, e, (headSpec (wsOf y bytes maxL ret) { frames := fr, cells := 0, slots := 0, locals := lo }).room), (s, m, av.toArray, below), (meth, c, 0, 0), (D, cT, aD, AA aD s.heap.size), MQ below (Qm D cT aD s.heap.size r h') av.toArray s 0 0 (AA aD s.heap.size)) rfl rfl rfl rfl
    ⟨B.exec, B.bytes, hml, hown, fun w hw => hts w (List.mem_cons_of_mem _ hw), hK, hJ, fun i hi => Or.inl ⟨i, hi, rfl⟩, fun q hq => Or.inr hq, Nat.zero_le _, Nat.zero_le _, Nat.le_refl _, Nat.le_refl _, hNW⟩
    ⟨B.returns, B.notSynchronized, _, rfl, fun t ht _ hF => ⟨rfl, ht, hF⟩⟩
  exact key s.heap [] _ hl hP va_S.rf
theorem g_iret {K : gK} {own : String} {cc : ByteArray} {nL fr lo pc : Nat} {lv : List (Nat × Value)} {h : Hp} {v : Int32} (S : Cx K own cc nL fr lo) (F : Rt K (some .int) (some (.int v)) h) (d : decode cc pc = .ok (.ireturn, 1)) : Go K pc lv [.int v] h := by
  obtain ⟨⟨p, l, e, R⟩, ⟨s, m, args, below⟩, ⟨meth, c0, cells, slots⟩, ⟨D, cT, aD, A⟩, Q⟩ := K
  obtain ⟨hx, hb, hml, hown, hts, hK, hJ, hA, hAs, hce, hsl, hfr, hlo, hNW⟩ := S
  obtain ⟨hr, hlocks, Qc, rfl, hq⟩ := F
  intro H locs ls hl hP hS
  exact W.iret hx hb hr (fun t ht hW => hq t (by rw [ht]; exact hP) hW (hS.F ht)) hS.2.2 d
theorem g_zret {K : gK} {own : String} {cc : ByteArray} {nL fr lo pc : Nat} {lv : List (Nat × Value)} {h : Hp} {v : Int32} (S : Cx K own cc nL fr lo) (F : Rt K (some .boolean) (some (.int v)) h) (d : decode cc pc = .ok (.ireturn, 1)) (hv : v = 0 ∨ v = 1) : Go K pc lv [.int v] h := by
  obtain ⟨⟨p, l, e, R⟩, ⟨s, m, args, below⟩, ⟨meth, c0, cells, slots⟩, ⟨D, cT, aD, A⟩, Q⟩ := K
  obtain ⟨hx, hb, hml, hown, hts, hK, hJ, hA, hAs, hce, hsl, hfr, hlo, hNW⟩ := S
  obtain ⟨hr, hlocks, Qc, rfl, hq⟩ := F
  intro H locs ls hl hP hS
  exact W.zret hx hb hr (by rcases hv with rfl | rfl <;> rfl) (fun t ht hW => hq t (by rw [ht]; exact hP) hW (hS.F ht)) hS.2.2 d
theorem g_lret {K : gK} {own : String} {cc : ByteArray} {nL fr lo pc : Nat} {lv : List (Nat × Value)} {h : Hp} {v : Int64} (S : Cx K own cc nL fr lo) (F : Rt K (some .long) (some (.long v)) h) (d : decode cc pc = .ok (.lreturn, 1)) : Go K pc lv [.long v] h := by
  obtain ⟨⟨p, l, e, R⟩, ⟨s, m, args, below⟩, ⟨meth, c0, cells, slots⟩, ⟨D, cT, aD, A⟩, Q⟩ := K
  obtain ⟨hx, hb, hml, hown, hts, hK, hJ, hA, hAs, hce, hsl, hfr, hlo, hNW⟩ := S
  obtain ⟨hr, hlocks, Qc, rfl, hq⟩ := F
  intro H locs ls hl hP hS
  exact W.lret hx hb hr (fun t ht hW => hq t (by rw [ht]; exact hP) hW (hS.F ht)) hS.2.2 d
theorem g_vret {K : gK} {own : String} {cc : ByteArray} {nL fr lo pc : Nat} {lv : List (Nat × Value)} {h : Hp} (S : Cx K own cc nL fr lo) (F : Rt K none none h) (d : decode cc pc = .ok (.return_, 1)) : Go K pc lv [] h := by
  obtain ⟨⟨p, l, e, R⟩, ⟨s, m, args, below⟩, ⟨meth, c0, cells, slots⟩, ⟨D, cT, aD, A⟩, Q⟩ := K
  obtain ⟨hx, hb, hml, hown, hts, hK, hJ, hA, hAs, hce, hsl, hfr, hlo, hNW⟩ := S
  obtain ⟨hr, hlocks, Qc, rfl, hq⟩ := F
  intro H locs ls hl hP hS
  exact W.vret hx hb hr (fun t ht hW => hq t (by rw [ht]; exact hP) hW (hS.F ht)) hS.2.2 d
theorem lw_good : ∀ w ∈ lw_gd, goodWord w = true := by
  exact fun w hw => (lw_gd_ok w hw).2
/-- a method of the tables -/
def MW (y : MethodName) (bytes : ByteArray) (maxL : Nat) (ret : Option FieldType) (n : Nat) : Prop := Cond.code y bytes maxL ret ∈ lw_gd ∧ Cond.initialized y.cls ∈ lw_gd ∧ (y.cls ≠ "java/lang/invoke/MethodHandle" ∧ y.cls ≠ "java/lang/invoke/VarHandle") ∧ (parseMethodDescriptor y.desc).map (fun d => d.parameters.length) = some n
theorem Bm_blind {D : va_G} {cT : Nat → ClassId} {aD : Nat → Nat} {sz : Nat} {h : Hp} {av : List Value} : FrameBlind (va_Pc av (Bm D cT aD sz h)) := fun a U g mk q => by
  obtain ⟨q0, q1, qP, qK, qJ, qN⟩ := q
  exact ⟨q0, q1, qP, va_K.moved (u := U) (U := U.calling g mk a) (Vm.Alike.refl U.vm) qK, qJ, NW.same rfl qN⟩
theorem okBack {l : Launch} {D : va_G} {cT : Nat → ClassId} {aD : Nat → Nat} {y : MethodName} {bytes : ByteArray} {maxL : Nat} {ret : Option FieldType} {fr lo n sz : Nat} {av : List Value} {h : Hp} {r : Option Value} {h' : Hp} {p : Program} {e : Env} {R : Room} {s : State} {args : Array Value} {below : List Frame}
    (hM : Ok l D cT aD y bytes maxL ret fr lo av h r h') (hm : MW y bytes maxL ret n) (hts : ∀ w ∈ lw_gd, w.before args s = true) (hf : fr + 1 ≤ R.frames) (hl : 12 + (maxL + 11) + lo ≤ R.locals) :
    Back l R p e below s args y 3 12 (PreOf R 0 0 (va_Pc av (Bm D cT aD sz h))) (PostOf (Qm D cT aD sz r h') 0 0 (AA aD sz)) := by
  refine back_of (bytes := bytes) (maxL := maxL) (ret := ret) (hM sz) Bm_blind rfl rfl hf hl (fun w hw a' U hW => ?_) List.mem_cons_self (fun a' U hW => word_at hW (good_of_word (lw_good _ hm.2.1)) (hts _ hm.2.1))
  rcases List.mem_cons.mp hw with rfl | hw
  · exact word_at hW (good_of_word (lw_good _ hm.1)) (hts _ hm.1)
  · exact word_at hW (good_of_word (lw_good _ hw)) (hts _ hw)
/-- what a call gives, and how it goes on -/
theorem okGoes {D : va_G} {cT : Nat → ClassId} {aD : Nat → Nat} {r : Option Value} {h h' : Hp} {p : Program} {l : Launch} {e : Env} {R : Room} {s : State} {m : MethodId} {args a : Array Value} {below : List Frame} {meth : Method} {c : Code} {H : Heap} {locs : List Loc} {cells slots : Nat} {Q : State → Prop} {A : Nat → Prop} {T : State} {pc : Nat} {ls : Array Slot} {st rest : List Value}
    (hT : T.heap = H) (hA : ∀ i, i < kdL.length → A (aD i)) (hAs : ∀ q, s.heap.size ≤ q → A q) (hS : va_S A s.heap H locs)
    (hc : ∃ (v : Option Value) (vm₁ : Vm) (B : Pt), s.WarmedH vm₁ ∧ Stand p l e R s m args below meth c B.U B.locs B.cells B.slots ∧ PostOf (Qm D cT aD H.size r h') 0 0 (AA aD H.size) ⟨T.setVm vm₁, locs, cells, slots⟩ a v B ∧
      ∀ target, Steps p.tables e below (B.U.setTop { F0 m pc ls st with pc := pc + 3, stack := v.toList ++ rest }) target → Steps p.tables e below (T.setTop (F0 m pc ls st)) target)
    (kk : ∀ (H1 : Heap) (locs1 : List Loc), va_P D vwCl (conc cT aD h') H1 → va_S A s.heap H1 locs1 → W p l e R s m args below meth c H1 locs1 cells slots Q (F0 m (pc + 3) ls (r.toList ++ rest))) :
    ∃ t, Steps p.tables e below (T.setTop (F0 m pc ls st)) t ∧ Q t := by
  obtain ⟨v, vm₁, ⟨U', l2, c2, s2⟩, hW₁, X', ⟨g', mk, t, L, e1, e2, ⟨hv, hP', hz, hk⟩, h1, hL, h2, h3⟩, st⟩ := hc
  dsimp only [Pt.U, Pt.locs, Pt.cells, Pt.slots] at X' e1 e2 h1 h2 h3 st
  subst h1; subst h2; subst h3
  cases hv
  have h0 : ((T.setVm vm₁).calling g' mk a).heap = H := hT
  rw [h0] at hz hk
  have hAA : ∀ q, AA aD H.size q → A q := fun q hq => by
    rcases hq with ⟨i, hi, rfl⟩ | hq
    · exact hA i hi
    · exact hAs q (Nat.le_trans hS.1 hq)
  obtain ⟨t2, a1, b1⟩ := kk U'.heap (locs ++ L) (by rw [e1]; exact hP')
    ⟨Nat.le_trans hS.1 (by rw [e1]; exact hz), fun q q1 q2 => by rw [e1, hk q (Nat.lt_of_lt_of_le q1 hS.1) (fun z => q2 (hAA q z))]; exact hS.2.1 q q1 q2, fun q hq => by
      rcases List.mem_append.mp hq with hq | hq
      · exact hS.2.2 q hq
      · exact hAA _ (hL q hq)⟩ U' rfl X'
  exact ⟨t2, st t2 a1, b1⟩
theorem g_callV {K : gK} {own : String} {cc : ByteArray} {nL fr lo pc : Nat} {lv : List (Nat × Value)} {st : List Value} {h : Hp} {c ci index n maxL fr' lo' : Nat} {C : String} {T : u_T} {N : Nat} {y : MethodName} {bytes : ByteArray} {ret : Option FieldType} {As rest : List Value} {r : Option Value} {h' : Hp} (S : Cx K own cc nL fr lo) (d : decode cc pc = .ok (.invokevirtual index, 3)) (hk : kd c (10 + ci, 0)) (hC : vwCl[ci]? = some (C, T, N)) (hlink : Cond.methodLink own index y ∈ lw_gd) (hin : Cond.instanceMethod y ∈ lw_gd) (hse : Cond.selects C y y ∈ lw_gd) (hm : MW y bytes maxL ret n)
    (hM : Ok K.1.2.1 K.2.2.2.1.1 K.2.2.2.1.2.1 (ad K) y bytes maxL ret fr' lo' (.ref (ad K c) :: As) h r h') (hn : As.length = n) (hst : st = As.reverse ++ .ref (ad K c) :: rest) (hW : (rest.map fun v => v.category).sum ≤ 12) (hf : fr' + 1 ≤ fr) (hl : 12 + (maxL + 11) + lo' ≤ lo)
    (kk : Go K (pc + 3) lv (r.toList ++ rest) h') : Go K pc lv st h := by
  obtain ⟨⟨p, l, e, R⟩, ⟨s, m, args, below⟩, ⟨meth, c0, cells, slots⟩, ⟨D, cT, aD, A⟩, Q⟩ := K
  obtain ⟨hx, hb, hml, hown, hts, hK, hJ, hA, hAs, hce, hsl, hfr, hlo, hNW⟩ := S
  intro H locs ls hl0 hP hS
  subst hst
  have he := conc_at (cT := cT) (ad := aD) (h := h) hk
  rw [cellOf_obj] at he
  obtain ⟨cellB, hcB, hoB, hclB⟩ := va_recv hK hP hC he
  intro T0 hT X
  refine okGoes (a := (Value.ref (aD c) :: As).toArray) (D := D) (cT := cT) (aD := aD) (h := h) hT hA hAs hS ?_ (fun H1 locs1 hP1 hS1 => kk H1 locs1 ls hl0 hP1 hS1)
  exact callV X hx (C := C) (bytes := bytes) (maxL := maxL) (ret := ret) hown (hts _ hlink) (hts _ hin) (hts _ hse) (hts _ hm.1) hm.2.2.1 (okBack hM hm hts (Nat.le_trans hf hfr) (Nat.le_trans hl hlo)) (by rw [hT]; exact hcB) hoB hclB rfl hl0.1 (argsL := As) (rest := rest)
    (fun sig hs => by have h2 := hm.2.2.2; rw [hs] at h2; rw [hn]; exact (Option.some.inj h2).symm) rfl (by show 2 * 0 + _ ≤ 12; omega) (by rw [hb]; exact d) (fun vm₁ hW₁ => ⟨hce, hsl, rfl, by show T0.heap.size = _; rw [hT], by show va_P _ _ _ T0.heap; rw [hT]; exact hP, va_K.moved hW₁.alike hK, hJ, NW.warm hW₁ hNW⟩)
theorem g_callS {K : gK} {own : String} {cc : ByteArray} {nL fr lo pc : Nat} {lv : List (Nat × Value)} {st : List Value} {h : Hp} {index n maxL fr' lo' : Nat} {y : MethodName} {bytes : ByteArray} {ret : Option FieldType} {As rest : List Value} {r : Option Value} {h' : Hp} (S : Cx K own cc nL fr lo) (d : decode cc pc = .ok (.invokestatic index, 3)) (hlink : Cond.methodLink own index y ∈ lw_gd) (hstc : Cond.static y ∈ lw_gd) (hm : MW y bytes maxL ret n)
    (hM : Ok K.1.2.1 K.2.2.2.1.1 K.2.2.2.1.2.1 (ad K) y bytes maxL ret fr' lo' As h r h') (hn : As.length = n) (hst : st = As.reverse ++ rest) (hW : (rest.map fun v => v.category).sum ≤ 12) (hf : fr' + 1 ≤ fr) (hl : 12 + (maxL + 11) + lo' ≤ lo)
    (kk : Go K (pc + 3) lv (r.toList ++ rest) h') : Go K pc lv st h := by
  obtain ⟨⟨p, l, e, R⟩, ⟨s, m, args, below⟩, ⟨meth, c0, cells, slots⟩, ⟨D, cT, aD, A⟩, Q⟩ := K
  obtain ⟨hx, hb, hml, hown, hts, hK, hJ, hA, hAs, hce, hsl, hfr, hlo, hNW⟩ := S
  intro H locs ls hl0 hP hS
  subst hst
  intro T0 hT X
  refine okGoes (a := As.toArray) (D := D) (cT := cT) (aD := aD) (h := h) hT hA hAs hS ?_ (fun H1 locs1 hP1 hS1 => kk H1 locs1 ls hl0 hP1 hS1)
  exact callS X hx (bytes := bytes) (maxL := maxL) (ret := ret) hown (hts _ hlink) (hts _ hstc) (hts _ hm.2.1) (hts _ hm.1) hm.2.2.1 (okBack hM hm hts (Nat.le_trans hf hfr) (Nat.le_trans hl hlo)) rfl hl0.1 (argsL := As) (rest := rest)
    (fun sig hs => by have h2 := hm.2.2.2; rw [hs] at h2; rw [hn]; exact (Option.some.inj h2).symm) rfl (by show 2 * 0 + _ ≤ 12; omega) (by rw [hb]; exact d) (fun vm₁ hW₁ => ⟨hce, hsl, rfl, by show T0.heap.size = _; rw [hT], by show va_P _ _ _ T0.heap; rw [hT]; exact hP, va_K.moved hW₁.alike hK, hJ, NW.warm hW₁ hNW⟩)
theorem g_callSN {K : gK} {own : String} {cc : ByteArray} {nL fr lo pc : Nat} {lv : List (Nat × Value)} {st : List Value} {h : Hp} {index n maxL fr' lo' : Nat} {host : String} {y : MethodName} {bytes : ByteArray} {ret : Option FieldType} {As rest : List Value} {r : Option Value} {h' : Hp} (S : Cx K own cc nL fr lo) (d : decode cc pc = .ok (.invokestatic index, 3)) (hlink : (own, index, y, host) ∈ nestL) (hstc : Cond.static y ∈ lw_gd) (hm : MW y bytes maxL ret n)
    (hM : Ok K.1.2.1 K.2.2.2.1.1 K.2.2.2.1.2.1 (ad K) y bytes maxL ret fr' lo' As h r h') (hn : As.length = n) (hst : st = As.reverse ++ rest) (hW : (rest.map fun v => v.category).sum ≤ 12) (hf : fr' + 1 ≤ fr) (hl : 12 + (maxL + 11) + lo' ≤ lo)
    (kk : Go K (pc + 3) lv (r.toList ++ rest) h') : Go K pc lv st h := by
  obtain ⟨⟨p, l, e, R⟩, ⟨s, m, args, below⟩, ⟨meth, c0, cells, slots⟩, ⟨D, cT, aD, A⟩, Q⟩ := K
  obtain ⟨hx, hb, hml, hown, hts, hK, hJ, hA, hAs, hce, hsl, hfr, hlo, hNW⟩ := S
  intro H locs ls hl0 hP hS
  subst hst
  intro T0 hT X
  refine okGoes (a := As.toArray) (D := D) (cT := cT) (aD := aD) (h := h) hT hA hAs hS ?_ (fun H1 locs1 hP1 hS1 => kk H1 locs1 ls hl0 hP1 hS1)
  exact va_callSN X hx (bytes := bytes) (maxL := maxL) (ret := ret) hown (va_Nw.use rfl (hNW _ hlink)) (hts _ hstc) (hts _ hm.2.1) (hts _ hm.1) hm.2.2.1 (okBack hM hm hts (Nat.le_trans hf hfr) (Nat.le_trans hl hlo)) rfl hl0.1 (argsL := As) (rest := rest)
    (fun sig hs => by have h2 := hm.2.2.2; rw [hs] at h2; rw [hn]; exact (Option.some.inj h2).symm) rfl (by show 2 * 0 + _ ≤ 12; omega) (by rw [hb]; exact d) (fun vm₁ hW₁ => ⟨hce, hsl, rfl, by show T0.heap.size = _; rw [hT], by show va_P _ _ _ T0.heap; rw [hT]; exact hP, va_K.moved hW₁.alike hK, hJ, NW.warm hW₁ hNW⟩)

/-! loops: one pass answers the next state or how the loop ends -/
def iter {σ ρ : Type} (f : σ → Option (σ ⊕ ρ)) : Nat → σ → Option ρ
  | 0, _ => none
  | n + 1, s => match f s with
    | none => none
    | some (.inl s') => iter f n s'
    | some (.inr r) => some r
theorem FUEL_ex : ∃ n : Nat, 1000000000 ≤ n := ⟨_, Nat.le_refl _⟩
noncomputable def FUEL : Nat := FUEL_ex.choose
theorem FUEL_ge : 1000000000 ≤ FUEL := FUEL_ex.choose_spec
theorem g_loop {σ ρ : Type} {f : σ → Option (σ ⊕ ρ)} {Hd : σ → Prop} {Ex : ρ → Prop} (body : ∀ s o, f s = some o → (∀ s', o = .inl s' → Hd s') → (∀ r, o = .inr r → Ex r) → Hd s) : ∀ (n : Nat) (s : σ) (r : ρ), iter f n s = some r → Ex r → Hd s := by
  intro n
  induction n with
  | zero => intro s r h; cases h
  | succ n ih =>
    intro s r h hr
    unfold iter at h
    cases hf : f s with
    | none => rw [hf] at h; cases h
    | some o =>
      rw [hf] at h
      cases o with
      | inl s' => exact body s _ hf (fun s2 e => by cases e; exact ih s' r h hr) (fun r2 e => by cases e)
      | inr r' =>
        cases h
        exact body s _ hf (fun s2 e => by cases e) (fun r2 e => by cases e; exact hr)
theorem g_bind {α β : Type} {o : Option α} {f : α → Option β} {X : β} {G : Prop} (hyp : o.bind f = some X) (kk : ∀ x, o = some x → f x = some X → G) : G := by
  cases o with
  | none => cases hyp
  | some x => exact kk x rfl hyp
theorem g_tabIn {K : gK} {own : String} {cc : ByteArray} {nL fr lo pc : Nat} {lv : List (Nat × Value)} {st : List Value} {h : Hp} {dflt lo' hi : Int} {offs : Array Int} {len : Nat} {x : Int32} {off : Int} {tgt : Nat} (S : Cx K own cc nL fr lo) (d : decode cc pc = .ok (.tableswitch dflt lo' hi offs, len)) (h1 : ¬ x.toInt < lo') (h2 : ¬ hi < x.toInt) (ho : offs[(x.toInt - lo').toNat]? = some off) (ht : (pc : Int) + off = (tgt : Int)) (k : Go K tgt lv st h) : Go K pc lv (.int x :: st) h := by
  obtain ⟨⟨p, l, e, R⟩, ⟨s, m, args, below⟩, ⟨meth, c0, cells, slots⟩, ⟨D, cT, aD, A⟩, Q⟩ := K
  obtain ⟨hx, hb, hml, hown, hts, hK, hJ, hA, hAs, hce, hsl, hfr, hlo, hNW⟩ := S
  exact fun H locs ls hl hP hS => lv_tableIn hx hb d h1 h2 ho ht (k H locs ls hl hP hS)
theorem g_tabOut {K : gK} {own : String} {cc : ByteArray} {nL fr lo pc : Nat} {lv : List (Nat × Value)} {st : List Value} {h : Hp} {dflt lo' hi : Int} {offs : Array Int} {len : Nat} {x : Int32} {tgt : Nat} (S : Cx K own cc nL fr lo) (d : decode cc pc = .ok (.tableswitch dflt lo' hi offs, len)) (h1 : x.toInt < lo' ∨ hi < x.toInt) (ht : (pc : Int) + dflt = (tgt : Int)) (k : Go K tgt lv st h) : Go K pc lv (.int x :: st) h := by
  obtain ⟨⟨p, l, e, R⟩, ⟨s, m, args, below⟩, ⟨meth, c0, cells, slots⟩, ⟨D, cT, aD, A⟩, Q⟩ := K
  obtain ⟨hx, hb, hml, hown, hts, hK, hJ, hA, hAs, hce, hsl, hfr, hlo, hNW⟩ := S
  exact fun H locs ls hl hP hS => lv_tableOut hx hb d h1 ht (k H locs ls hl hP hS)

theorem g_cpI {K : gK} {own : String} {cc : ByteArray} {nL fr lo pc : Nat} {lv : List (Nat × Value)} {st : List Value} {h : Hp} {β : Type} {X : β} {f : Hp → Option β} {b c n0 n1 index : Nat} {sp dp n : Int32} (S : Cx K own cc nL fr lo) (d : decode cc pc = .ok (.invokestatic index, 3)) (w1 : Cond.methodLink own index arraycopyName ∈ lw_gd) (w2 : Cond.native arraycopyName ∈ lw_gd) (w3 : Cond.static arraycopyName ∈ lw_gd) (w4 : Cond.initialized "java/lang/System" ∈ lw_gd) (hk0 : kd b (0, n0)) (hk1 : kd c (0, n1)) (hf : 1 ≤ fr) (hl9 : (st.map fun v => v.category).sum + (nativeFrameWords "java/lang/System" "arraycopy" 5 + 11) ≤ lo) (hyp : cpyI h b n0 sp c n1 dp n f = some X) (kk : ∀ h1, f h1 = some X → Go K (pc + 3) lv st h1) : Go K pc lv (.int n :: .int dp :: .ref (ad K c) :: .int sp :: .ref (ad K b) :: st) h := by
  obtain ⟨⟨p, l, e, R⟩, ⟨s, m, args, below⟩, ⟨meth, c0, cells, slots⟩, ⟨D, cT, aD, A⟩, Q⟩ := K
  obtain ⟨hx, hb, hml, hown, hts, hK, hJ, hA, hAs, hce, hsl, hfr, hlo, hNW⟩ := S
  intro H locs ls hl hP hS
  obtain ⟨⟨h1, h2, h3, h4, h5⟩, hyp⟩ := of_if hyp
  refine va_copyi hx hb hl.1.symm hown (hts _ w1) (hts _ w2) (hts _ w3) (hts _ w4) hK hP (conc_D hJ hA) hS b c 0 0 (conc_at hk0) (conc_at hk1) rfl rfl rfl h1 h2 h3 h4 h5 (fun i hi => rfl) (Nat.le_trans hf hfr) (Nat.le_trans hl9 hlo) d (fun H1 locs1 hP1 _ hS1 => ?_)
  rw [conc_set (h1 := cpI h b c sp.toNatClampNeg dp.toNatClampNeg n.toNatClampNeg) hk1 (by unfold cellOf; simp [cpI]) (fun c' hc' => by simp [cpI, hc']) (fun c' hc' => by simp [cpI, hc'])] at hP1
  exact kk _ hyp H1 locs1 ls hl hP1 hS1
theorem g_cpJ {K : gK} {own : String} {cc : ByteArray} {nL fr lo pc : Nat} {lv : List (Nat × Value)} {st : List Value} {h : Hp} {β : Type} {X : β} {f : Hp → Option β} {b c n0 n1 index : Nat} {sp dp n : Int32} (S : Cx K own cc nL fr lo) (d : decode cc pc = .ok (.invokestatic index, 3)) (w1 : Cond.methodLink own index arraycopyName ∈ lw_gd) (w2 : Cond.native arraycopyName ∈ lw_gd) (w3 : Cond.static arraycopyName ∈ lw_gd) (w4 : Cond.initialized "java/lang/System" ∈ lw_gd) (hk0 : kd b (2, n0)) (hk1 : kd c (2, n1)) (hf : 1 ≤ fr) (hl9 : (st.map fun v => v.category).sum + (nativeFrameWords "java/lang/System" "arraycopy" 5 + 11) ≤ lo) (hyp : cpyJ h b n0 sp c n1 dp n f = some X) (kk : ∀ h1, f h1 = some X → Go K (pc + 3) lv st h1) : Go K pc lv (.int n :: .int dp :: .ref (ad K c) :: .int sp :: .ref (ad K b) :: st) h := by
  obtain ⟨⟨p, l, e, R⟩, ⟨s, m, args, below⟩, ⟨meth, c0, cells, slots⟩, ⟨D, cT, aD, A⟩, Q⟩ := K
  obtain ⟨hx, hb, hml, hown, hts, hK, hJ, hA, hAs, hce, hsl, hfr, hlo, hNW⟩ := S
  intro H locs ls hl hP hS
  obtain ⟨⟨h1, h2, h3, h4, h5⟩, hyp⟩ := of_if hyp
  refine va_copyl hx hb hl.1.symm hown (hts _ w1) (hts _ w2) (hts _ w3) (hts _ w4) hK hP (conc_D hJ hA) hS b c 2 2 (conc_at hk0) (conc_at hk1) rfl rfl rfl h1 h2 h3 h4 h5 (fun i hi => rfl) (Nat.le_trans hf hfr) (Nat.le_trans hl9 hlo) d (fun H1 locs1 hP1 _ hS1 => ?_)
  rw [conc_set (h1 := cpJ h b c sp.toNatClampNeg dp.toNatClampNeg n.toNatClampNeg) hk1 (by unfold cellOf; simp [cpJ]) (fun c' hc' => by simp [cpJ, hc']) (fun c' hc' => by simp [cpJ, hc'])] at hP1
  exact kk _ hyp H1 locs1 ls hl hP1 hS1
theorem g_tabK {K : gK} {own : String} {cc : ByteArray} {nL fr lo pc : Nat} {lv : List (Nat × Value)} {st : List Value} {h : Hp} {dflt lo' hi : Int} {offs : Array Int} {len : Nat} {x k : Int32} {off : Int} {tgt : Nat} (S : Cx K own cc nL fr lo) (d : decode cc pc = .ok (.tableswitch dflt lo' hi offs, len)) (e : x = k) (h1 : ¬ k.toInt < lo') (h2 : ¬ hi < k.toInt) (ho : offs[(k.toInt - lo').toNat]? = some off) (ht : (pc : Int) + off = (tgt : Int)) (kk : Go K tgt lv st h) : Go K pc lv (.int x :: st) h := by
  subst e
  exact g_tabIn S d h1 h2 ho ht kk
theorem g_tab1 {β : Type} {X : β} {A0 B0 : Option β} {x k : Int32} {G : Prop} (hyp : (if x = k then A0 else B0) = some X) (kt : x = k → A0 = some X → G) (kf : ¬ x = k → B0 = some X → G) : G := by
  by_cases hc : x = k
  · rw [if_pos hc] at hyp; exact kt hc hyp
  · rw [if_neg hc] at hyp; exact kf hc hyp
