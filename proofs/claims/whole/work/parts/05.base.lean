def nestL : List (String × Nat × MethodName × String) := [("BoundProofs", 11, ⟨"BoundProofs$Problem", "<init>", "()V"⟩, "BoundProofs"), ("BoundProofs", 29, ⟨"BoundProofs$Reader", "<init>", "()V"⟩, "BoundProofs"), ("BoundProofs", 36, ⟨"BoundProofs$Clashes", "<init>", "()V"⟩, "BoundProofs"), ("BoundProofs$Clashes", 11, ⟨"BoundProofs$Circuit", "<init>", "()V"⟩, "BoundProofs"), ("BoundProofs$Circuit", 11, ⟨"BoundProofs$Rows", "<init>", "()V"⟩, "BoundProofs"), ("BoundProofs", 55, ⟨"BoundProofs$Limit", "<init>", "()V"⟩, "BoundProofs"), ("BoundProofs", 62, ⟨"BoundProofs$Sampler", "<init>", "()V"⟩, "BoundProofs"), ("BoundProofs$Sampler", 11, ⟨"BoundProofs$Circuit", "<init>", "()V"⟩, "BoundProofs"), ("BoundProofs$Sampler", 31, ⟨"BoundProofs$Limit", "<init>", "()V"⟩, "BoundProofs"), ("BoundProofs", 69, ⟨"BoundProofs$Corners", "<init>", "()V"⟩, "BoundProofs"), ("BoundProofs$Corners", 24, ⟨"BoundProofs$Rows", "<init>", "()V"⟩, "BoundProofs"), ("BoundProofs", 76, ⟨"BoundProofs$Grid", "<init>", "()V"⟩, "BoundProofs"), ("BoundProofs$Circuit", 84, ⟨"BoundProofs", "commonDivisor", "(JJ)J"⟩, "BoundProofs"), ("BoundProofs$Sampler", 101, ⟨"BoundProofs", "commonDivisor", "(JJ)J"⟩, "BoundProofs")]
def NW (U : State) : Prop := ∀ q ∈ nestL, va_Nw (.methodLinkNest q.1 q.2.1 q.2.2.1 q.2.2.2) U
theorem NW.warm {s U : State} (hW : s.WarmedH U.vm) (h : NW s) : NW U := fun q hq => va_Nw.warmM hW (h q hq)
theorem NW.same {u U : State} (e : u.vm = U.vm) (h : NW u) : NW U := fun q hq => va_Nw.same rfl e (h q hq)
/-! the abstract heap: ints and longs by cell and place; which cells there are; the world that it stands for -/
abbrev Hp : Type := (Nat → Nat → Int32) × (Nat → Nat → Int64)
def sI (h : Hp) (c k : Nat) (v : Int32) : Hp := (fun c' k' => if c' = c ∧ k' = k then v else h.1 c' k', h.2)
def sJ (h : Hp) (c k : Nat) (v : Int64) : Hp := (h.1, fun c' k' => if c' = c ∧ k' = k then v else h.2 c' k')
/-- n places of cell b from place sp on, laid into cell c from dp on -/
def cpI (h : Hp) (b c : Nat) (sp dp n : Nat) : Hp := (fun c' k' => if c' = c then va_cpy (h.1 b) (h.1 c) sp dp n k' else h.1 c' k', h.2)
def cpJ (h : Hp) (b c : Nat) (sp dp n : Nat) : Hp := (h.1, fun c' k' => if c' = c then va_cpy (h.2 b) (h.2 c) sp dp n k' else h.2 c' k')

def kdL : List (Nat × Nat) := [(19, 0), (15, 0), (0, 24), (0, 10), (0, 10), (0, 10), (0, 4), (15, 0), (0, 24), (0, 10), (0, 10), (0, 10), (0, 4), (3, 2), (15, 0), (0, 24), (0, 10), (0, 10), (0, 10), (0, 4), (15, 0), (0, 24), (0, 10), (0, 10), (0, 10), (0, 4), (1, 2), (16, 0), (0, 90), (0, 3), (11, 0), (10, 0), (17, 0), (0, 36), (2, 12), (1, 12), (1, 12), (0, 4), (0, 4), (0, 781), (0, 13), (14, 0), (18, 0), (10, 0), (17, 0), (0, 36), (2, 12), (1, 12), (1, 12), (0, 4), (0, 4), (14, 0), (14, 0), (2, 3), (2, 3), (12, 0), (2, 360), (2, 120), (17, 0), (0, 36), (2, 12), (1, 12), (1, 12), (2, 3), (13, 0), (0, 3), (20, 0), (0, 24), (0, 30), (0, 4), (0, 2), (0, 128), (2, 20), (2, 20), (2, 20), (2, 20), (0, 20), (2, 120), (2, 120), (2, 120), (0, 120), (0, 10), (2, 30), (2, 10), (0, 10), (2, 3), (2, 3), (2, 480), (2, 4), (0, 90), (0, 24), (0, 30)]
abbrev kd (c : Nat) (q : Nat × Nat) : Prop := kdL[c]? = some q
def fk : Nat → List (Nat × Nat) := fun ci => match ci with
  | 0 => [(2, 1), (2, 6), (2, 7), (0, 0), (1, 0), (0, 0)]
  | 1 => [(2, 1), (2, 2), (2, 9), (2, 10)]
  | 2 => [(0, 0), (2, 1), (2, 2), (2, 3), (2, 8), (1, 0)]
  | 3 => [(2, 1)]
  | 4 => [(0, 0), (1, 0), (1, 0), (0, 0)]
  | 5 => [(0, 0), (0, 0), (0, 0), (0, 0), (2, 1), (2, 2), (2, 3), (2, 4), (2, 5)]
  | 6 => [(2, 1), (0, 0), (0, 0), (0, 0), (0, 0), (0, 0), (2, 2)]
  | 7 => [(2, 1), (2, 2), (2, 3), (2, 4), (0, 0), (0, 0)]
  | 8 => [(2, 1), (2, 2), (1, 0), (2, 9), (2, 10), (1, 0), (1, 0), (2, 11), (2, 12)]
  | 9 => [(2, 1), (2, 7), (2, 13), (2, 26), (2, 27), (2, 30), (2, 31), (2, 32), (2, 41), (2, 42), (2, 55), (2, 64), (1, 0), (1, 0), (1, 0)]
  | 10 => [(0, 0), (0, 0), (2, 1), (0, 0), (2, 2), (0, 0), (2, 3), (2, 4), (2, 5), (0, 0), (2, 6), (2, 7), (2, 8), (2, 9), (2, 10), (0, 0), (2, 11), (2, 12), (2, 13), (2, 14), (0, 0), (1, 0), (1, 0), (0, 0), (0, 0), (1, 0), (1, 0), (0, 0), (0, 0), (0, 0), (2, 15), (2, 16), (2, 17), (2, 18), (1, 0), (1, 0), (1, 0), (2, 19), (2, 20), (0, 0), (2, 21), (2, 22), (2, 23), (0, 0), (0, 0), (0, 0), (0, 0), (0, 0), (2, 24), (0, 0), (2, 25)]
  | _ => []
def mpx {α β : Type} (f : Nat → α → β) : Nat → List α → List β
  | _, [] => []
  | k, a :: l => f k a :: mpx f (k + 1) l
theorem mpx_get {α β : Type} (f : Nat → α → β) : ∀ (l : List α) (s k : Nat), (mpx f s l)[k]? = (l[k]?).map (f (s + k))
  | [], s, k => by simp [mpx]
  | a :: l, s, 0 => by simp [mpx]
  | a :: l, s, k + 1 => by
    have h := mpx_get f l (s + 1) k
    rw [show s + 1 + k = s + (k + 1) by omega] at h
    simpa [mpx] using h
theorem mpx_get0 {α β : Type} (f : Nat → α → β) (l : List α) (k : Nat) : (mpx f 0 l)[k]? = (l[k]?).map (f k) := by
  have h := mpx_get f l 0 k
  rwa [Nat.zero_add] at h
theorem mpx_len {α β : Type} (f : Nat → α → β) : ∀ (l : List α) (s : Nat), (mpx f s l).length = l.length
  | [], s => rfl
  | a :: l, s => by simp [mpx, mpx_len f l (s + 1)]
def fvs (ad : Nat → Nat) (h : Hp) (c ci : Nat) : List Value := mpx (fun k (q : Nat × Nat) => if q.1 = 0 then Value.int (h.1 c k) else if q.1 = 1 then .long (h.2 c k) else .ref (ad (c + q.2))) 0 (fk ci)
def cellOf (cT : Nat → ClassId) (ad : Nat → Nat) (h : Hp) (c : Nat) (q : Nat × Nat) : va_E :=
  if q.1 = 0 then .inl (cT 0, q.2, .inl (h.1 c)) else if q.1 = 1 then .inl (cT 1, q.2, .inl (h.1 c)) else if q.1 = 2 then .inl (cT 2, q.2, .inr (.inl (h.2 c)))
  else if q.1 = 3 then .inl (cT 3, q.2, .inr (.inr (.inr (.inr (fun j => if j < 2 then some (ad (c + 1 + 6 * j)) else none))))) else .inr (q.1 - 10, fvs ad h c (q.1 - 10))
def conc (cT : Nat → ClassId) (ad : Nat → Nat) (h : Hp) : va_W := mpx (fun c q => (ad c, cellOf cT ad h c q)) 0 kdL
def tysOf (cT : Nat → ClassId) : List (ClassId × FieldType) := [(cT 0, .int), (cT 1, .boolean), (cT 2, .long), (cT 3, .object "BoundProofs$Problem")]
theorem conc_at {cT : Nat → ClassId} {ad : Nat → Nat} {h : Hp} {c : Nat} {q : Nat × Nat} (hk : kd c q) : (conc cT ad h)[c]? = some (ad c, cellOf cT ad h c q) := by
  unfold conc
  rw [mpx_get0, hk]
  rfl
theorem conc_inv {cT : Nat → ClassId} {ad : Nat → Nat} {h : Hp} {c : Nat} {z : Nat × va_E} (hz : (conc cT ad h)[c]? = some z) : ∃ q, kd c q ∧ z = (ad c, cellOf cT ad h c q) := by
  unfold conc at hz
  rw [mpx_get0] at hz
  cases hk : kdL[c]? with
  | none => rw [hk] at hz; cases hz
  | some q => rw [hk] at hz; exact ⟨q, hk, (Option.some.inj hz).symm⟩
theorem kd_lt {c : Nat} {q : Nat × Nat} (hk : kd c q) : c < kdL.length := (List.getElem?_eq_some_iff.mp hk).1
/-- another heap that differs at one cell alone -/
theorem conc_set {cT : Nat → ClassId} {ad : Nat → Nat} {h h1 : Hp} {c : Nat} {q : Nat × Nat} {z : va_E} (hk : kd c q) (hz : cellOf cT ad h1 c q = z) (h2 : ∀ c', c' ≠ c → h1.1 c' = h.1 c') (h3 : ∀ c', c' ≠ c → h1.2 c' = h.2 c') : (conc cT ad h).set c (ad c, z) = conc cT ad h1 := by
  apply List.ext_getElem?
  intro j
  rw [List.getElem?_set]
  have hl : (conc cT ad h).length = kdL.length := mpx_len _ _ _
  by_cases hj : c = j
  · subst hj
    rw [if_pos rfl, if_pos (by rw [hl]; exact kd_lt hk), conc_at hk, hz]
  · rw [if_neg hj]
    cases hq : kdL[j]? with
    | none =>
      unfold conc
      rw [mpx_get0, mpx_get0, hq]
      rfl
    | some q' =>
      rw [conc_at (h := h) hq, conc_at (h := h1) hq]
      have e1 := h2 j (fun e => hj e.symm)
      have e2 := h3 j (fun e => hj e.symm)
      unfold cellOf fvs
      rw [e1, e2]
/-! the machine and where it stands, as one thing -/
abbrev gK : Type := (Program × Launch × Env × Room) × (State × MethodId × Array Value × List Frame) × (Method × Code × Nat × Nat) × (va_G × (Nat → ClassId) × (Nat → Nat) × (Nat → Prop)) × (State → Prop)
def Go (K : gK) (pc : Nat) (lv : List (Nat × Value)) (st : List Value) (h : Hp) : Prop :=
  match K with
  | ((p, l, e, R), (s, m, args, below), (meth, c, cells, slots), (D, cT, ad, A), Q) =>
    ∀ (H : Heap) (locs : List Loc) (ls : Array Slot), lv_has ls c.maxLocals lv → va_P D vwCl (conc cT ad h) H → va_S A s.heap H locs → W p l e R s m args below meth c H locs cells slots Q (F0 m pc ls st)
/-- what stands fast while a method of class own with the code cc runs -/
def Cx (K : gK) (own : String) (cc : ByteArray) (nL fr lo : Nat) : Prop :=
  match K with
  | ((p, _, _, R), (s, m, args, _), (_, c, cells, slots), (D, cT, ad, A), _) =>
    p.tables.exec = Jvm.exec ∧ c.code = cc ∧ c.maxLocals = nL ∧ s.vm.findClass own = some m.cls ∧ (∀ w ∈ lw_gd, w.before args s = true) ∧ va_K D vwCl (tysOf cT) s ∧ (∀ i j : Nat, i < kdL.length → j < kdL.length → ad i = ad j → i = j) ∧ (∀ i, i < kdL.length → A (ad i)) ∧ (∀ q, s.heap.size ≤ q → A q) ∧ cells ≤ R.cells ∧ slots ≤ R.slots ∧ fr ≤ R.frames ∧ lo ≤ R.locals ∧ NW s
/-- the address of a cell, as the machine here has it -/
def ad (K : gK) (c : Nat) : Nat := K.2.2.2.1.2.2.1 c
theorem conc_D {cT : Nat → ClassId} {ad : Nat → Nat} {h : Hp} {A : Nat → Prop} (hJ : ∀ i j : Nat, i < kdL.length → j < kdL.length → ad i = ad j → i = j) (hA : ∀ i, i < kdL.length → A (ad i)) : va_D A (conc cT ad h) := by
  refine ⟨fun i j p q hp hq e => ?_, fun k q hq => ?_⟩
  · obtain ⟨a, ha, rfl⟩ := conc_inv hp
    obtain ⟨b, hb, rfl⟩ := conc_inv hq
    exact hJ i j (kd_lt ha) (kd_lt hb) e
  · obtain ⟨a, ha, rfl⟩ := conc_inv hq
    exact hA k (kd_lt ha)
def lt {α β : Type} (e : α) (f : α → Option β) : Option β := f e
def inb (i : Int32) (n : Nat) : Prop := ¬ (i < 0 ∨ n ≤ i.toNatClampNeg)
def ldI {β : Type} (h : Hp) (c n : Nat) (i : Int32) (k : Int32 → Option β) : Option β := if ¬ (i < 0 ∨ n ≤ i.toNatClampNeg) then k (h.1 c i.toNatClampNeg) else none
def ldJ {β : Type} (h : Hp) (c n : Nat) (i : Int32) (k : Int64 → Option β) : Option β := if ¬ (i < 0 ∨ n ≤ i.toNatClampNeg) then k (h.2 c i.toNatClampNeg) else none
def ldR {β : Type} (c : Nat) (i : Int32) (k : Nat → Option β) : Option β := if ¬ (i < 0 ∨ 2 ≤ i.toNatClampNeg) then k (c + 1 + 6 * i.toNatClampNeg) else none
def stI {β : Type} (h : Hp) (c n : Nat) (i : Int32) (v : Int32) (k : Hp → Option β) : Option β := if ¬ (i < 0 ∨ n ≤ i.toNatClampNeg) then k (sI h c i.toNatClampNeg v) else none
def stJ {β : Type} (h : Hp) (c n : Nat) (i : Int32) (v : Int64) (k : Hp → Option β) : Option β := if ¬ (i < 0 ∨ n ≤ i.toNatClampNeg) then k (sJ h c i.toNatClampNeg v) else none
def ckB {β : Type} (v : Int32) (k : Option β) : Option β := if v = 0 ∨ v = 1 then k else none
def nzI {β : Type} (v : Int32) (k : Option β) : Option β := if v = 0 then none else k
def nzJ {β : Type} (v : Int64) (k : Option β) : Option β := if v = 0 then none else k
def cpyI {β : Type} (h : Hp) (b nb : Nat) (sp : Int32) (c nc : Nat) (dp n : Int32) (k : Hp → Option β) : Option β := if ¬ sp < 0 ∧ ¬ dp < 0 ∧ ¬ n < 0 ∧ sp.toNatClampNeg + n.toNatClampNeg ≤ nb ∧ dp.toNatClampNeg + n.toNatClampNeg ≤ nc then k (cpI h b c sp.toNatClampNeg dp.toNatClampNeg n.toNatClampNeg) else none
def cpyJ {β : Type} (h : Hp) (b nb : Nat) (sp : Int32) (c nc : Nat) (dp n : Int32) (k : Hp → Option β) : Option β := if ¬ sp < 0 ∧ ¬ dp < 0 ∧ ¬ n < 0 ∧ sp.toNatClampNeg + n.toNatClampNeg ≤ nb ∧ dp.toNatClampNeg + n.toNatClampNeg ≤ nc then k (cpJ h b c sp.toNatClampNeg dp.toNatClampNeg n.toNatClampNeg) else none
theorem of_if {α : Type} {p : Prop} {_d : Decidable p} {k : Option α} {x : α} (h : (if p then k else none) = some x) : p ∧ k = some x := by
  by_cases hp : p
  · rw [if_pos hp] at h; exact ⟨hp, h⟩
  · rw [if_neg hp] at h; cases h

theorem g_iadd {K : gK} {own : String} {cc : ByteArray} {nL fr lo pc : Nat} {lv : List (Nat × Value)} {st : List Value} {h : Hp} {x y : Int32} (S : Cx K own cc nL fr lo) (d : decode cc pc = .ok (.iadd, 1)) (k : Go K (pc + 1) lv (.int (x + y) :: st) h) : Go K pc lv (.int y :: .int x :: st) h := by
  obtain ⟨⟨p, l, e, R⟩, ⟨s, m, args, below⟩, ⟨meth, c, cells, slots⟩, ⟨D, cT, aD, A⟩, Q⟩ := K
  obtain ⟨hx, hb, hml, hown, hts, hK, hJ, hA, hAs, hce, hsl, hfr, hlo, hNW⟩ := S
  exact fun H locs ls hl hP hS => lv_iadd hx hb d (k H locs ls hl hP hS)
theorem g_isub {K : gK} {own : String} {cc : ByteArray} {nL fr lo pc : Nat} {lv : List (Nat × Value)} {st : List Value} {h : Hp} {x y : Int32} (S : Cx K own cc nL fr lo) (d : decode cc pc = .ok (.isub, 1)) (k : Go K (pc + 1) lv (.int (x - y) :: st) h) : Go K pc lv (.int y :: .int x :: st) h := by
  obtain ⟨⟨p, l, e, R⟩, ⟨s, m, args, below⟩, ⟨meth, c, cells, slots⟩, ⟨D, cT, aD, A⟩, Q⟩ := K
  obtain ⟨hx, hb, hml, hown, hts, hK, hJ, hA, hAs, hce, hsl, hfr, hlo, hNW⟩ := S
  exact fun H locs ls hl hP hS => lv_isub hx hb d (k H locs ls hl hP hS)
theorem g_imul {K : gK} {own : String} {cc : ByteArray} {nL fr lo pc : Nat} {lv : List (Nat × Value)} {st : List Value} {h : Hp} {x y : Int32} (S : Cx K own cc nL fr lo) (d : decode cc pc = .ok (.imul, 1)) (k : Go K (pc + 1) lv (.int (x * y) :: st) h) : Go K pc lv (.int y :: .int x :: st) h := by
  obtain ⟨⟨p, l, e, R⟩, ⟨s, m, args, below⟩, ⟨meth, c, cells, slots⟩, ⟨D, cT, aD, A⟩, Q⟩ := K
  obtain ⟨hx, hb, hml, hown, hts, hK, hJ, hA, hAs, hce, hsl, hfr, hlo, hNW⟩ := S
  exact fun H locs ls hl hP hS => lv_imul hx hb d (k H locs ls hl hP hS)
theorem g_iand {K : gK} {own : String} {cc : ByteArray} {nL fr lo pc : Nat} {lv : List (Nat × Value)} {st : List Value} {h : Hp} {x y : Int32} (S : Cx K own cc nL fr lo) (d : decode cc pc = .ok (.iand, 1)) (k : Go K (pc + 1) lv (.int (x &&& y) :: st) h) : Go K pc lv (.int y :: .int x :: st) h := by
  obtain ⟨⟨p, l, e, R⟩, ⟨s, m, args, below⟩, ⟨meth, c, cells, slots⟩, ⟨D, cT, aD, A⟩, Q⟩ := K
  obtain ⟨hx, hb, hml, hown, hts, hK, hJ, hA, hAs, hce, hsl, hfr, hlo, hNW⟩ := S
  exact fun H locs ls hl hP hS => lv_iand hx hb d (k H locs ls hl hP hS)
theorem g_ior {K : gK} {own : String} {cc : ByteArray} {nL fr lo pc : Nat} {lv : List (Nat × Value)} {st : List Value} {h : Hp} {x y : Int32} (S : Cx K own cc nL fr lo) (d : decode cc pc = .ok (.ior, 1)) (k : Go K (pc + 1) lv (.int (x ||| y) :: st) h) : Go K pc lv (.int y :: .int x :: st) h := by
  obtain ⟨⟨p, l, e, R⟩, ⟨s, m, args, below⟩, ⟨meth, c, cells, slots⟩, ⟨D, cT, aD, A⟩, Q⟩ := K
  obtain ⟨hx, hb, hml, hown, hts, hK, hJ, hA, hAs, hce, hsl, hfr, hlo, hNW⟩ := S
  exact fun H locs ls hl hP hS => lv_ior hx hb d (k H locs ls hl hP hS)
theorem g_ixor {K : gK} {own : String} {cc : ByteArray} {nL fr lo pc : Nat} {lv : List (Nat × Value)} {st : List Value} {h : Hp} {x y : Int32} (S : Cx K own cc nL fr lo) (d : decode cc pc = .ok (.ixor, 1)) (k : Go K (pc + 1) lv (.int (x ^^^ y) :: st) h) : Go K pc lv (.int y :: .int x :: st) h := by
  obtain ⟨⟨p, l, e, R⟩, ⟨s, m, args, below⟩, ⟨meth, c, cells, slots⟩, ⟨D, cT, aD, A⟩, Q⟩ := K
  obtain ⟨hx, hb, hml, hown, hts, hK, hJ, hA, hAs, hce, hsl, hfr, hlo, hNW⟩ := S
  exact fun H locs ls hl hP hS => lv_ixor hx hb d (k H locs ls hl hP hS)
theorem g_ishl {K : gK} {own : String} {cc : ByteArray} {nL fr lo pc : Nat} {lv : List (Nat × Value)} {st : List Value} {h : Hp} {x y : Int32} (S : Cx K own cc nL fr lo) (d : decode cc pc = .ok (.ishl, 1)) (k : Go K (pc + 1) lv (.int (x <<< (y &&& 31)) :: st) h) : Go K pc lv (.int y :: .int x :: st) h := by
  obtain ⟨⟨p, l, e, R⟩, ⟨s, m, args, below⟩, ⟨meth, c, cells, slots⟩, ⟨D, cT, aD, A⟩, Q⟩ := K
  obtain ⟨hx, hb, hml, hown, hts, hK, hJ, hA, hAs, hce, hsl, hfr, hlo, hNW⟩ := S
  exact fun H locs ls hl hP hS => lv_ishl hx hb d (k H locs ls hl hP hS)
theorem g_ishr {K : gK} {own : String} {cc : ByteArray} {nL fr lo pc : Nat} {lv : List (Nat × Value)} {st : List Value} {h : Hp} {x y : Int32} (S : Cx K own cc nL fr lo) (d : decode cc pc = .ok (.ishr, 1)) (k : Go K (pc + 1) lv (.int (x >>> (y &&& 31)) :: st) h) : Go K pc lv (.int y :: .int x :: st) h := by
  obtain ⟨⟨p, l, e, R⟩, ⟨s, m, args, below⟩, ⟨meth, c, cells, slots⟩, ⟨D, cT, aD, A⟩, Q⟩ := K
  obtain ⟨hx, hb, hml, hown, hts, hK, hJ, hA, hAs, hce, hsl, hfr, hlo, hNW⟩ := S
  exact fun H locs ls hl hP hS => lv_ishr hx hb d (k H locs ls hl hP hS)
theorem g_ladd {K : gK} {own : String} {cc : ByteArray} {nL fr lo pc : Nat} {lv : List (Nat × Value)} {st : List Value} {h : Hp} {x y : Int64} (S : Cx K own cc nL fr lo) (d : decode cc pc = .ok (.ladd, 1)) (k : Go K (pc + 1) lv (.long (x + y) :: st) h) : Go K pc lv (.long y :: .long x :: st) h := by
  obtain ⟨⟨p, l, e, R⟩, ⟨s, m, args, below⟩, ⟨meth, c, cells, slots⟩, ⟨D, cT, aD, A⟩, Q⟩ := K
  obtain ⟨hx, hb, hml, hown, hts, hK, hJ, hA, hAs, hce, hsl, hfr, hlo, hNW⟩ := S
  exact fun H locs ls hl hP hS => lv_ladd hx hb d (k H locs ls hl hP hS)
theorem g_lsub {K : gK} {own : String} {cc : ByteArray} {nL fr lo pc : Nat} {lv : List (Nat × Value)} {st : List Value} {h : Hp} {x y : Int64} (S : Cx K own cc nL fr lo) (d : decode cc pc = .ok (.lsub, 1)) (k : Go K (pc + 1) lv (.long (x - y) :: st) h) : Go K pc lv (.long y :: .long x :: st) h := by
  obtain ⟨⟨p, l, e, R⟩, ⟨s, m, args, below⟩, ⟨meth, c, cells, slots⟩, ⟨D, cT, aD, A⟩, Q⟩ := K
  obtain ⟨hx, hb, hml, hown, hts, hK, hJ, hA, hAs, hce, hsl, hfr, hlo, hNW⟩ := S
  exact fun H locs ls hl hP hS => lv_lsub hx hb d (k H locs ls hl hP hS)
theorem g_lmul {K : gK} {own : String} {cc : ByteArray} {nL fr lo pc : Nat} {lv : List (Nat × Value)} {st : List Value} {h : Hp} {x y : Int64} (S : Cx K own cc nL fr lo) (d : decode cc pc = .ok (.lmul, 1)) (k : Go K (pc + 1) lv (.long (x * y) :: st) h) : Go K pc lv (.long y :: .long x :: st) h := by
  obtain ⟨⟨p, l, e, R⟩, ⟨s, m, args, below⟩, ⟨meth, c, cells, slots⟩, ⟨D, cT, aD, A⟩, Q⟩ := K
  obtain ⟨hx, hb, hml, hown, hts, hK, hJ, hA, hAs, hce, hsl, hfr, hlo, hNW⟩ := S
  exact fun H locs ls hl hP hS => lv_lmul hx hb d (k H locs ls hl hP hS)
theorem g_lxor {K : gK} {own : String} {cc : ByteArray} {nL fr lo pc : Nat} {lv : List (Nat × Value)} {st : List Value} {h : Hp} {x y : Int64} (S : Cx K own cc nL fr lo) (d : decode cc pc = .ok (.lxor, 1)) (k : Go K (pc + 1) lv (.long (x ^^^ y) :: st) h) : Go K pc lv (.long y :: .long x :: st) h := by
  obtain ⟨⟨p, l, e, R⟩, ⟨s, m, args, below⟩, ⟨meth, c, cells, slots⟩, ⟨D, cT, aD, A⟩, Q⟩ := K
  obtain ⟨hx, hb, hml, hown, hts, hK, hJ, hA, hAs, hce, hsl, hfr, hlo, hNW⟩ := S
  exact fun H locs ls hl hP hS => lv_lxor hx hb d (k H locs ls hl hP hS)
theorem g_ineg {K : gK} {own : String} {cc : ByteArray} {nL fr lo pc : Nat} {lv : List (Nat × Value)} {st : List Value} {h : Hp} {x : Int32} (S : Cx K own cc nL fr lo) (d : decode cc pc = .ok (.ineg, 1)) (k : Go K (pc + 1) lv (.int (-x) :: st) h) : Go K pc lv (.int x :: st) h := by
  obtain ⟨⟨p, l, e, R⟩, ⟨s, m, args, below⟩, ⟨meth, c, cells, slots⟩, ⟨D, cT, aD, A⟩, Q⟩ := K
  obtain ⟨hx, hb, hml, hown, hts, hK, hJ, hA, hAs, hce, hsl, hfr, hlo, hNW⟩ := S
  exact fun H locs ls hl hP hS => lv_ineg hx hb d (k H locs ls hl hP hS)
theorem g_lneg {K : gK} {own : String} {cc : ByteArray} {nL fr lo pc : Nat} {lv : List (Nat × Value)} {st : List Value} {h : Hp} {x : Int64} (S : Cx K own cc nL fr lo) (d : decode cc pc = .ok (.lneg, 1)) (k : Go K (pc + 1) lv (.long (-x) :: st) h) : Go K pc lv (.long x :: st) h := by
  obtain ⟨⟨p, l, e, R⟩, ⟨s, m, args, below⟩, ⟨meth, c, cells, slots⟩, ⟨D, cT, aD, A⟩, Q⟩ := K
  obtain ⟨hx, hb, hml, hown, hts, hK, hJ, hA, hAs, hce, hsl, hfr, hlo, hNW⟩ := S
  exact fun H locs ls hl hP hS => lv_lneg hx hb d (k H locs ls hl hP hS)
theorem g_i2l {K : gK} {own : String} {cc : ByteArray} {nL fr lo pc : Nat} {lv : List (Nat × Value)} {st : List Value} {h : Hp} {x : Int32} (S : Cx K own cc nL fr lo) (d : decode cc pc = .ok (.i2l, 1)) (k : Go K (pc + 1) lv (.long x.toInt64 :: st) h) : Go K pc lv (.int x :: st) h := by
  obtain ⟨⟨p, l, e, R⟩, ⟨s, m, args, below⟩, ⟨meth, c, cells, slots⟩, ⟨D, cT, aD, A⟩, Q⟩ := K
  obtain ⟨hx, hb, hml, hown, hts, hK, hJ, hA, hAs, hce, hsl, hfr, hlo, hNW⟩ := S
  exact fun H locs ls hl hP hS => lv_i2l hx hb d rfl (k H locs ls hl hP hS)
theorem g_iconst {K : gK} {own : String} {cc : ByteArray} {nL fr lo pc : Nat} {lv : List (Nat × Value)} {st : List Value} {h : Hp} {n : Int} {v : Int32} (S : Cx K own cc nL fr lo) (d : decode cc pc = .ok (.iconst n, 1)) (hv : Int32.ofInt n = v) (k : Go K (pc + 1) lv (.int v :: st) h) : Go K pc lv (st) h := by
  obtain ⟨⟨p, l, e, R⟩, ⟨s, m, args, below⟩, ⟨meth, c, cells, slots⟩, ⟨D, cT, aD, A⟩, Q⟩ := K
  obtain ⟨hx, hb, hml, hown, hts, hK, hJ, hA, hAs, hce, hsl, hfr, hlo, hNW⟩ := S
  exact fun H locs ls hl hP hS => lv_iconst hx hb d hv (k H locs ls hl hP hS)
theorem g_bipush {K : gK} {own : String} {cc : ByteArray} {nL fr lo pc : Nat} {lv : List (Nat × Value)} {st : List Value} {h : Hp} {n : Int} {v : Int32} (S : Cx K own cc nL fr lo) (d : decode cc pc = .ok (.bipush n, 2)) (hv : (Int8.ofInt n).toInt32 = v) (k : Go K (pc + 2) lv (.int v :: st) h) : Go K pc lv (st) h := by
  obtain ⟨⟨p, l, e, R⟩, ⟨s, m, args, below⟩, ⟨meth, c, cells, slots⟩, ⟨D, cT, aD, A⟩, Q⟩ := K
  obtain ⟨hx, hb, hml, hown, hts, hK, hJ, hA, hAs, hce, hsl, hfr, hlo, hNW⟩ := S
  exact fun H locs ls hl hP hS => lv_bipush hx hb d hv (k H locs ls hl hP hS)
theorem g_sipush {K : gK} {own : String} {cc : ByteArray} {nL fr lo pc : Nat} {lv : List (Nat × Value)} {st : List Value} {h : Hp} {n : Int} {v : Int32} (S : Cx K own cc nL fr lo) (d : decode cc pc = .ok (.sipush n, 3)) (hv : (Int16.ofInt n).toInt32 = v) (k : Go K (pc + 3) lv (.int v :: st) h) : Go K pc lv (st) h := by
  obtain ⟨⟨p, l, e, R⟩, ⟨s, m, args, below⟩, ⟨meth, c, cells, slots⟩, ⟨D, cT, aD, A⟩, Q⟩ := K
  obtain ⟨hx, hb, hml, hown, hts, hK, hJ, hA, hAs, hce, hsl, hfr, hlo, hNW⟩ := S
  exact fun H locs ls hl hP hS => lv_sipush hx hb d hv (k H locs ls hl hP hS)
theorem g_lconst {K : gK} {own : String} {cc : ByteArray} {nL fr lo pc : Nat} {lv : List (Nat × Value)} {st : List Value} {h : Hp} {n : Fin 2} {v : Int64} (S : Cx K own cc nL fr lo) (d : decode cc pc = .ok (.lconst n, 1)) (hv : Int64.ofNat (n : Nat) = v) (k : Go K (pc + 1) lv (.long v :: st) h) : Go K pc lv (st) h := by
  obtain ⟨⟨p, l, e, R⟩, ⟨s, m, args, below⟩, ⟨meth, c, cells, slots⟩, ⟨D, cT, aD, A⟩, Q⟩ := K
  obtain ⟨hx, hb, hml, hown, hts, hK, hJ, hA, hAs, hce, hsl, hfr, hlo, hNW⟩ := S
  exact fun H locs ls hl hP hS => lv_lconst hx hb d hv (k H locs ls hl hP hS)
theorem g_dup {K : gK} {own : String} {cc : ByteArray} {nL fr lo pc : Nat} {lv : List (Nat × Value)} {st : List Value} {h : Hp} {v : Value} (S : Cx K own cc nL fr lo) (d : decode cc pc = .ok (.dup, 1)) (hv : v.category = 1) (k : Go K (pc + 1) lv (v :: v :: st) h) : Go K pc lv (v :: st) h := by
  obtain ⟨⟨p, l, e, R⟩, ⟨s, m, args, below⟩, ⟨meth, c, cells, slots⟩, ⟨D, cT, aD, A⟩, Q⟩ := K
  obtain ⟨hx, hb, hml, hown, hts, hK, hJ, hA, hAs, hce, hsl, hfr, hlo, hNW⟩ := S
  exact fun H locs ls hl hP hS => lv_dup hx hb d hv (k H locs ls hl hP hS)
theorem g_pop {K : gK} {own : String} {cc : ByteArray} {nL fr lo pc : Nat} {lv : List (Nat × Value)} {st : List Value} {h : Hp} {v : Value} (S : Cx K own cc nL fr lo) (d : decode cc pc = .ok (.pop, 1)) (hv : v.category = 1) (k : Go K (pc + 1) lv (st) h) : Go K pc lv (v :: st) h := by
  obtain ⟨⟨p, l, e, R⟩, ⟨s, m, args, below⟩, ⟨meth, c, cells, slots⟩, ⟨D, cT, aD, A⟩, Q⟩ := K
  obtain ⟨hx, hb, hml, hown, hts, hK, hJ, hA, hAs, hce, hsl, hfr, hlo, hNW⟩ := S
  exact fun H locs ls hl hP hS => lv_pop hx hb d hv (k H locs ls hl hP hS)
theorem g_dup2 {K : gK} {own : String} {cc : ByteArray} {nL fr lo pc : Nat} {lv : List (Nat × Value)} {st : List Value} {h : Hp} {v u : Value} (S : Cx K own cc nL fr lo) (d : decode cc pc = .ok (.dup2, 1)) (hv : v.category = 1) (hu : u.category = 1) (k : Go K (pc + 1) lv (v :: u :: v :: u :: st) h) : Go K pc lv (v :: u :: st) h := by
  obtain ⟨⟨p, l, e, R⟩, ⟨s, m, args, below⟩, ⟨meth, c, cells, slots⟩, ⟨D, cT, aD, A⟩, Q⟩ := K
  obtain ⟨hx, hb, hml, hown, hts, hK, hJ, hA, hAs, hce, hsl, hfr, hlo, hNW⟩ := S
  exact fun H locs ls hl hP hS => lv_dup2_11 hx hb d hv hu (k H locs ls hl hP hS)
theorem g_iload_n {K : gK} {own : String} {cc : ByteArray} {nL fr lo pc : Nat} {lv : List (Nat × Value)} {st : List Value} {h : Hp} {k : Fin 4} {x : Int32} (j : Nat) (S : Cx K own cc nL fr lo) (d : decode cc pc = .ok (.iload_n k, 1)) (hj : lv[j]? = some ((k : Nat), .int x)) (kk : Go K (pc + 1) lv (.int x :: st) h) : Go K pc lv st h := by
  obtain ⟨⟨p, l, e, R⟩, ⟨s, m, args, below⟩, ⟨meth, c, cells, slots⟩, ⟨D, cT, aD, A⟩, Q⟩ := K
  obtain ⟨hx, hb, hml, hown, hts, hK, hJ, hA, hAs, hce, hsl, hfr, hlo, hNW⟩ := S
  exact fun H locs ls hl hP hS => lv_iload_n hx hb d rfl (lv_at hl j hj) (kk H locs ls hl hP hS)
theorem g_iload {K : gK} {own : String} {cc : ByteArray} {nL fr lo pc : Nat} {lv : List (Nat × Value)} {st : List Value} {h : Hp} {i : Nat} {x : Int32} (j : Nat) (S : Cx K own cc nL fr lo) (d : decode cc pc = .ok (.iload i, 2)) (hj : lv[j]? = some (i, .int x)) (kk : Go K (pc + 2) lv (.int x :: st) h) : Go K pc lv st h := by
  obtain ⟨⟨p, l, e, R⟩, ⟨s, m, args, below⟩, ⟨meth, c, cells, slots⟩, ⟨D, cT, aD, A⟩, Q⟩ := K
  obtain ⟨hx, hb, hml, hown, hts, hK, hJ, hA, hAs, hce, hsl, hfr, hlo, hNW⟩ := S
  exact fun H locs ls hl hP hS => lv_iload hx hb d (lv_at hl j hj) (kk H locs ls hl hP hS)
theorem g_lload_n {K : gK} {own : String} {cc : ByteArray} {nL fr lo pc : Nat} {lv : List (Nat × Value)} {st : List Value} {h : Hp} {k : Fin 4} {x : Int64} (j : Nat) (S : Cx K own cc nL fr lo) (d : decode cc pc = .ok (.lload_n k, 1)) (hj : lv[j]? = some ((k : Nat), .long x)) (kk : Go K (pc + 1) lv (.long x :: st) h) : Go K pc lv st h := by
  obtain ⟨⟨p, l, e, R⟩, ⟨s, m, args, below⟩, ⟨meth, c, cells, slots⟩, ⟨D, cT, aD, A⟩, Q⟩ := K
  obtain ⟨hx, hb, hml, hown, hts, hK, hJ, hA, hAs, hce, hsl, hfr, hlo, hNW⟩ := S
  exact fun H locs ls hl hP hS => lv_lload_n hx hb d rfl (lv_at hl j hj) (kk H locs ls hl hP hS)
theorem g_lload {K : gK} {own : String} {cc : ByteArray} {nL fr lo pc : Nat} {lv : List (Nat × Value)} {st : List Value} {h : Hp} {i : Nat} {x : Int64} (j : Nat) (S : Cx K own cc nL fr lo) (d : decode cc pc = .ok (.lload i, 2)) (hj : lv[j]? = some (i, .long x)) (kk : Go K (pc + 2) lv (.long x :: st) h) : Go K pc lv st h := by
  obtain ⟨⟨p, l, e, R⟩, ⟨s, m, args, below⟩, ⟨meth, c, cells, slots⟩, ⟨D, cT, aD, A⟩, Q⟩ := K
  obtain ⟨hx, hb, hml, hown, hts, hK, hJ, hA, hAs, hce, hsl, hfr, hlo, hNW⟩ := S
  exact fun H locs ls hl hP hS => lv_lload hx hb d (lv_at hl j hj) (kk H locs ls hl hP hS)
theorem g_aload_n {K : gK} {own : String} {cc : ByteArray} {nL fr lo pc : Nat} {lv : List (Nat × Value)} {st : List Value} {h : Hp} {k : Fin 4} {x : Nat} (j : Nat) (S : Cx K own cc nL fr lo) (d : decode cc pc = .ok (.aload_n k, 1)) (hj : lv[j]? = some ((k : Nat), .ref x)) (kk : Go K (pc + 1) lv (.ref x :: st) h) : Go K pc lv st h := by
  obtain ⟨⟨p, l, e, R⟩, ⟨s, m, args, below⟩, ⟨meth, c, cells, slots⟩, ⟨D, cT, aD, A⟩, Q⟩ := K
  obtain ⟨hx, hb, hml, hown, hts, hK, hJ, hA, hAs, hce, hsl, hfr, hlo, hNW⟩ := S
  exact fun H locs ls hl hP hS => lv_aload_n hx hb d rfl (lv_at hl j hj) (kk H locs ls hl hP hS)
theorem g_aload {K : gK} {own : String} {cc : ByteArray} {nL fr lo pc : Nat} {lv : List (Nat × Value)} {st : List Value} {h : Hp} {i : Nat} {x : Nat} (j : Nat) (S : Cx K own cc nL fr lo) (d : decode cc pc = .ok (.aload i, 2)) (hj : lv[j]? = some (i, .ref x)) (kk : Go K (pc + 2) lv (.ref x :: st) h) : Go K pc lv st h := by
  obtain ⟨⟨p, l, e, R⟩, ⟨s, m, args, below⟩, ⟨meth, c, cells, slots⟩, ⟨D, cT, aD, A⟩, Q⟩ := K
  obtain ⟨hx, hb, hml, hown, hts, hK, hJ, hA, hAs, hce, hsl, hfr, hlo, hNW⟩ := S
  exact fun H locs ls hl hP hS => lv_aload hx hb d (lv_at hl j hj) (kk H locs ls hl hP hS)
theorem g_istore_n {K : gK} {own : String} {cc : ByteArray} {nL fr lo pc : Nat} {lv : List (Nat × Value)} {st : List Value} {h : Hp} {k : Fin 4} {i : Nat} {x : Int32} {lv' : List (Nat × Value)} (S : Cx K own cc nL fr lo) (d : decode cc pc = .ok (.istore_n k, 1)) (hi : (k : Nat) = i) (hn : i < nL) (hl0 : (i, Value.int x) :: lv.filter (fun q => !(q.1 == i) && !(q.1 + 1 == i && q.2.category == 2)) = lv') (kk : Go K (pc + 1) lv' st h) : Go K pc lv (.int x :: st) h := by
  obtain ⟨⟨p, l, e, R⟩, ⟨s, m, args, below⟩, ⟨meth, c, cells, slots⟩, ⟨D, cT, aD, A⟩, Q⟩ := K
  obtain ⟨hx, hb, hml, hown, hts, hK, hJ, hA, hAs, hce, hsl, hfr, hlo, hNW⟩ := S
  exact fun H locs ls hl hP hS => lv_istore_n hx hb d hi hl (by rw [hml]; exact hn) hl0 (fun ls hl => kk H locs ls hl hP hS)
theorem g_istore {K : gK} {own : String} {cc : ByteArray} {nL fr lo pc : Nat} {lv : List (Nat × Value)} {st : List Value} {h : Hp} {i : Nat} {x : Int32} {lv' : List (Nat × Value)} (S : Cx K own cc nL fr lo) (d : decode cc pc = .ok (.istore i, 2)) (hn : i < nL) (hl0 : (i, Value.int x) :: lv.filter (fun q => !(q.1 == i) && !(q.1 + 1 == i && q.2.category == 2)) = lv') (kk : Go K (pc + 2) lv' st h) : Go K pc lv (.int x :: st) h := by
  obtain ⟨⟨p, l, e, R⟩, ⟨s, m, args, below⟩, ⟨meth, c, cells, slots⟩, ⟨D, cT, aD, A⟩, Q⟩ := K
  obtain ⟨hx, hb, hml, hown, hts, hK, hJ, hA, hAs, hce, hsl, hfr, hlo, hNW⟩ := S
  exact fun H locs ls hl hP hS => lv_istore hx hb d hl (by rw [hml]; exact hn) hl0 (fun ls hl => kk H locs ls hl hP hS)
theorem g_lstore_n {K : gK} {own : String} {cc : ByteArray} {nL fr lo pc : Nat} {lv : List (Nat × Value)} {st : List Value} {h : Hp} {k : Fin 4} {i : Nat} {x : Int64} {lv' : List (Nat × Value)} (S : Cx K own cc nL fr lo) (d : decode cc pc = .ok (.lstore_n k, 1)) (hi : (k : Nat) = i) (hn : i + 1 < nL) (hl0 : (i, Value.long x) :: lv.filter (fun q => !(q.1 == i) && (!(q.1 == i + 1) && !(q.1 + 1 == i && q.2.category == 2))) = lv') (kk : Go K (pc + 1) lv' st h) : Go K pc lv (.long x :: st) h := by
  obtain ⟨⟨p, l, e, R⟩, ⟨s, m, args, below⟩, ⟨meth, c, cells, slots⟩, ⟨D, cT, aD, A⟩, Q⟩ := K
  obtain ⟨hx, hb, hml, hown, hts, hK, hJ, hA, hAs, hce, hsl, hfr, hlo, hNW⟩ := S
  exact fun H locs ls hl hP hS => lv_lstore_n hx hb d hi hl (by rw [hml]; exact hn) hl0 (fun ls hl => kk H locs ls hl hP hS)
theorem g_lstore {K : gK} {own : String} {cc : ByteArray} {nL fr lo pc : Nat} {lv : List (Nat × Value)} {st : List Value} {h : Hp} {i : Nat} {x : Int64} {lv' : List (Nat × Value)} (S : Cx K own cc nL fr lo) (d : decode cc pc = .ok (.lstore i, 2)) (hn : i + 1 < nL) (hl0 : (i, Value.long x) :: lv.filter (fun q => !(q.1 == i) && (!(q.1 == i + 1) && !(q.1 + 1 == i && q.2.category == 2))) = lv') (kk : Go K (pc + 2) lv' st h) : Go K pc lv (.long x :: st) h := by
  obtain ⟨⟨p, l, e, R⟩, ⟨s, m, args, below⟩, ⟨meth, c, cells, slots⟩, ⟨D, cT, aD, A⟩, Q⟩ := K
  obtain ⟨hx, hb, hml, hown, hts, hK, hJ, hA, hAs, hce, hsl, hfr, hlo, hNW⟩ := S
  exact fun H locs ls hl hP hS => lv_lstore hx hb d hl (by rw [hml]; exact hn) hl0 (fun ls hl => kk H locs ls hl hP hS)
theorem g_astore_n {K : gK} {own : String} {cc : ByteArray} {nL fr lo pc : Nat} {lv : List (Nat × Value)} {st : List Value} {h : Hp} {k : Fin 4} {i : Nat} {x : Nat} {lv' : List (Nat × Value)} (S : Cx K own cc nL fr lo) (d : decode cc pc = .ok (.astore_n k, 1)) (hi : (k : Nat) = i) (hn : i < nL) (hl0 : (i, Value.ref x) :: lv.filter (fun q => !(q.1 == i) && !(q.1 + 1 == i && q.2.category == 2)) = lv') (kk : Go K (pc + 1) lv' st h) : Go K pc lv (.ref x :: st) h := by
  obtain ⟨⟨p, l, e, R⟩, ⟨s, m, args, below⟩, ⟨meth, c, cells, slots⟩, ⟨D, cT, aD, A⟩, Q⟩ := K
  obtain ⟨hx, hb, hml, hown, hts, hK, hJ, hA, hAs, hce, hsl, hfr, hlo, hNW⟩ := S
  exact fun H locs ls hl hP hS => lv_astore_n hx hb d hi hl (by rw [hml]; exact hn) hl0 (fun ls hl => kk H locs ls hl hP hS)
theorem g_astore {K : gK} {own : String} {cc : ByteArray} {nL fr lo pc : Nat} {lv : List (Nat × Value)} {st : List Value} {h : Hp} {i : Nat} {x : Nat} {lv' : List (Nat × Value)} (S : Cx K own cc nL fr lo) (d : decode cc pc = .ok (.astore i, 2)) (hn : i < nL) (hl0 : (i, Value.ref x) :: lv.filter (fun q => !(q.1 == i) && !(q.1 + 1 == i && q.2.category == 2)) = lv') (kk : Go K (pc + 2) lv' st h) : Go K pc lv (.ref x :: st) h := by
  obtain ⟨⟨p, l, e, R⟩, ⟨s, m, args, below⟩, ⟨meth, c, cells, slots⟩, ⟨D, cT, aD, A⟩, Q⟩ := K
  obtain ⟨hx, hb, hml, hown, hts, hK, hJ, hA, hAs, hce, hsl, hfr, hlo, hNW⟩ := S
  exact fun H locs ls hl hP hS => lv_astore hx hb d hl (by rw [hml]; exact hn) hl0 (fun ls hl => kk H locs ls hl hP hS)
theorem g_iinc {K : gK} {own : String} {cc : ByteArray} {nL fr lo pc : Nat} {lv : List (Nat × Value)} {st : List Value} {h : Hp} {i : Nat} {n : Int} {x : Int32} {lv' : List (Nat × Value)} {v : Int32} (j : Nat) (S : Cx K own cc nL fr lo) (d : decode cc pc = .ok (.iinc i n, 3)) (hj : lv[j]? = some (i, .int x)) (hv : x + Int32.ofInt n = v) (hn : i < nL) (hl0 : (i, Value.int v) :: lv.filter (fun q => !(q.1 == i) && !(q.1 + 1 == i && q.2.category == 2)) = lv') (kk : Go K (pc + 3) lv' st h) : Go K pc lv st h := by
  obtain ⟨⟨p, l, e, R⟩, ⟨s, m, args, below⟩, ⟨meth, c, cells, slots⟩, ⟨D, cT, aD, A⟩, Q⟩ := K
  obtain ⟨hx, hb, hml, hown, hts, hK, hJ, hA, hAs, hce, hsl, hfr, hlo, hNW⟩ := S
  exact fun H locs ls hl hP hS => lv_iinc hx hb d hl hj hv (by rw [hml]; exact hn) hl0 (fun ls hl => kk H locs ls hl hP hS)
theorem g_goto {K : gK} {own : String} {cc : ByteArray} {nL fr lo pc : Nat} {lv : List (Nat × Value)} {st : List Value} {h : Hp} {off : Int} {tgt : Nat} (S : Cx K own cc nL fr lo) (d : decode cc pc = .ok (.goto off, 3)) (ht : (pc : Int) + off = (tgt : Int)) (kk : Go K tgt lv st h) : Go K pc lv st h := by
  obtain ⟨⟨p, l, e, R⟩, ⟨s, m, args, below⟩, ⟨meth, c, cells, slots⟩, ⟨D, cT, aD, A⟩, Q⟩ := K
  obtain ⟨hx, hb, hml, hown, hts, hK, hJ, hA, hAs, hce, hsl, hfr, hlo, hNW⟩ := S
  exact fun H locs ls hl hP hS => lv_goto hx hb d ht (kk H locs ls hl hP hS)
theorem g_sub {K : gK} {pc : Nat} {lv : List (Nat × Value)} {st : List Value} {h : Hp} {lv' : List (Nat × Value)} (ks : List Nat) (hk : lv_pick lv ks = lv') (kk : Go K pc lv' st h) : Go K pc lv st h := by
  obtain ⟨⟨p, l, e, R⟩, ⟨s, m, args, below⟩, ⟨meth, c, cells, slots⟩, ⟨D, cT, aD, A⟩, Q⟩ := K
  exact fun H locs ls hl hP hS => kk H locs ls (lv_sub hl ks hk) hP hS
theorem g_lti  {α β : Type} {X : β} {x : α} {f : α → Option β} (C : α → Prop) (hyp : lt x f = some X) (kk : ∀ y, f y = some X → C y) : C x := kk x hyp
theorem g_if_eq {K : gK} {own : String} {cc : ByteArray} {nL fr lo pc : Nat} {lv : List (Nat × Value)} {st : List Value} {h : Hp} {x : Int32} {off : Int} {tgt : Nat} {α : Type} {X : α} {A0 B0 : Option α} (S : Cx K own cc nL fr lo) (d : decode cc pc = .ok (.ifCond .eq off, 3)) (ht : (pc : Int) + off = (tgt : Int)) (hyp : (if x = 0 then A0 else B0) = some X) (kt : A0 = some X → Go K tgt lv st h) (kf : B0 = some X → Go K (pc + 3) lv st h) : Go K pc lv (.int x :: st) h := by
  obtain ⟨⟨p, l, e, R⟩, ⟨s, m, args, below⟩, ⟨meth, c, cells, slots⟩, ⟨D, cT, aD, A⟩, Q⟩ := K
  obtain ⟨hx, hb, hml, hown, hts, hK, hJ, hA, hAs, hce, hsl, hfr, hlo, hNW⟩ := S
  intro H locs ls hl hP hS
  by_cases hc : x = 0
  · rw [if_pos hc] at hyp
    exact lv_if_eq hx hb d ht (fun q => kt hyp H locs ls hl hP hS) (fun q => by first | exact absurd q hc | exact absurd hc q | exact absurd (Int32.not_lt.mpr q) (fun z => z hc) | exact absurd hc (Int32.not_lt.mpr q) | exact absurd (Int32.not_le.mp q) hc | exact absurd q (Int32.not_le.mpr hc) | exact absurd (Int32.not_lt.mp hc) q | exact absurd q (Int32.not_lt.mpr (Int32.not_lt.mp hc)))
  · rw [if_neg hc] at hyp
    exact lv_if_eq hx hb d ht (fun q => by first | exact absurd q hc | exact absurd hc q | exact absurd (Int32.not_lt.mpr q) (fun z => z hc) | exact absurd hc (Int32.not_lt.mpr q) | exact absurd (Int32.not_le.mp q) hc | exact absurd q (Int32.not_le.mpr hc) | exact absurd (Int32.not_lt.mp hc) q | exact absurd q (Int32.not_lt.mpr (Int32.not_lt.mp hc))) (fun q => kf hyp H locs ls hl hP hS)
theorem g_icmp_eq {K : gK} {own : String} {cc : ByteArray} {nL fr lo pc : Nat} {lv : List (Nat × Value)} {st : List Value} {h : Hp} {x y : Int32} {off : Int} {tgt : Nat} {α : Type} {X : α} {A0 B0 : Option α} (S : Cx K own cc nL fr lo) (d : decode cc pc = .ok (.if_icmp .eq off, 3)) (ht : (pc : Int) + off = (tgt : Int)) (hyp : (if x = y then A0 else B0) = some X) (kt : A0 = some X → Go K tgt lv st h) (kf : B0 = some X → Go K (pc + 3) lv st h) : Go K pc lv (.int y :: .int x :: st) h := by
  obtain ⟨⟨p, l, e, R⟩, ⟨s, m, args, below⟩, ⟨meth, c, cells, slots⟩, ⟨D, cT, aD, A⟩, Q⟩ := K
  obtain ⟨hx, hb, hml, hown, hts, hK, hJ, hA, hAs, hce, hsl, hfr, hlo, hNW⟩ := S
  intro H locs ls hl hP hS
  by_cases hc : x = y
  · rw [if_pos hc] at hyp
    exact lv_icmp_eq hx hb d ht (fun q => kt hyp H locs ls hl hP hS) (fun q => by first | exact absurd q hc | exact absurd hc q | exact absurd (Int32.not_lt.mpr q) (fun z => z hc) | exact absurd hc (Int32.not_lt.mpr q) | exact absurd (Int32.not_le.mp q) hc | exact absurd q (Int32.not_le.mpr hc) | exact absurd (Int32.not_lt.mp hc) q | exact absurd q (Int32.not_lt.mpr (Int32.not_lt.mp hc)))
  · rw [if_neg hc] at hyp
    exact lv_icmp_eq hx hb d ht (fun q => by first | exact absurd q hc | exact absurd hc q | exact absurd (Int32.not_lt.mpr q) (fun z => z hc) | exact absurd hc (Int32.not_lt.mpr q) | exact absurd (Int32.not_le.mp q) hc | exact absurd q (Int32.not_le.mpr hc) | exact absurd (Int32.not_lt.mp hc) q | exact absurd q (Int32.not_lt.mpr (Int32.not_lt.mp hc))) (fun q => kf hyp H locs ls hl hP hS)
theorem g_if_ne {K : gK} {own : String} {cc : ByteArray} {nL fr lo pc : Nat} {lv : List (Nat × Value)} {st : List Value} {h : Hp} {x : Int32} {off : Int} {tgt : Nat} {α : Type} {X : α} {A0 B0 : Option α} (S : Cx K own cc nL fr lo) (d : decode cc pc = .ok (.ifCond .ne off, 3)) (ht : (pc : Int) + off = (tgt : Int)) (hyp : (if x = 0 then A0 else B0) = some X) (kt : A0 = some X → Go K (pc + 3) lv st h) (kf : B0 = some X → Go K tgt lv st h) : Go K pc lv (.int x :: st) h := by
  obtain ⟨⟨p, l, e, R⟩, ⟨s, m, args, below⟩, ⟨meth, c, cells, slots⟩, ⟨D, cT, aD, A⟩, Q⟩ := K
  obtain ⟨hx, hb, hml, hown, hts, hK, hJ, hA, hAs, hce, hsl, hfr, hlo, hNW⟩ := S
  intro H locs ls hl hP hS
  by_cases hc : x = 0
  · rw [if_pos hc] at hyp
    exact lv_if_ne hx hb d ht (fun q => by first | exact absurd q hc | exact absurd hc q | exact absurd (Int32.not_lt.mpr q) (fun z => z hc) | exact absurd hc (Int32.not_lt.mpr q) | exact absurd (Int32.not_le.mp q) hc | exact absurd q (Int32.not_le.mpr hc) | exact absurd (Int32.not_lt.mp hc) q | exact absurd q (Int32.not_lt.mpr (Int32.not_lt.mp hc))) (fun q => kt hyp H locs ls hl hP hS)
  · rw [if_neg hc] at hyp
    exact lv_if_ne hx hb d ht (fun q => kf hyp H locs ls hl hP hS) (fun q => by first | exact absurd q hc | exact absurd hc q | exact absurd (Int32.not_lt.mpr q) (fun z => z hc) | exact absurd hc (Int32.not_lt.mpr q) | exact absurd (Int32.not_le.mp q) hc | exact absurd q (Int32.not_le.mpr hc) | exact absurd (Int32.not_lt.mp hc) q | exact absurd q (Int32.not_lt.mpr (Int32.not_lt.mp hc)))
theorem g_icmp_ne {K : gK} {own : String} {cc : ByteArray} {nL fr lo pc : Nat} {lv : List (Nat × Value)} {st : List Value} {h : Hp} {x y : Int32} {off : Int} {tgt : Nat} {α : Type} {X : α} {A0 B0 : Option α} (S : Cx K own cc nL fr lo) (d : decode cc pc = .ok (.if_icmp .ne off, 3)) (ht : (pc : Int) + off = (tgt : Int)) (hyp : (if x = y then A0 else B0) = some X) (kt : A0 = some X → Go K (pc + 3) lv st h) (kf : B0 = some X → Go K tgt lv st h) : Go K pc lv (.int y :: .int x :: st) h := by
  obtain ⟨⟨p, l, e, R⟩, ⟨s, m, args, below⟩, ⟨meth, c, cells, slots⟩, ⟨D, cT, aD, A⟩, Q⟩ := K
  obtain ⟨hx, hb, hml, hown, hts, hK, hJ, hA, hAs, hce, hsl, hfr, hlo, hNW⟩ := S
  intro H locs ls hl hP hS
  by_cases hc : x = y
  · rw [if_pos hc] at hyp
    exact lv_icmp_ne hx hb d ht (fun q => by first | exact absurd q hc | exact absurd hc q | exact absurd (Int32.not_lt.mpr q) (fun z => z hc) | exact absurd hc (Int32.not_lt.mpr q) | exact absurd (Int32.not_le.mp q) hc | exact absurd q (Int32.not_le.mpr hc) | exact absurd (Int32.not_lt.mp hc) q | exact absurd q (Int32.not_lt.mpr (Int32.not_lt.mp hc))) (fun q => kt hyp H locs ls hl hP hS)
  · rw [if_neg hc] at hyp
    exact lv_icmp_ne hx hb d ht (fun q => kf hyp H locs ls hl hP hS) (fun q => by first | exact absurd q hc | exact absurd hc q | exact absurd (Int32.not_lt.mpr q) (fun z => z hc) | exact absurd hc (Int32.not_lt.mpr q) | exact absurd (Int32.not_le.mp q) hc | exact absurd q (Int32.not_le.mpr hc) | exact absurd (Int32.not_lt.mp hc) q | exact absurd q (Int32.not_lt.mpr (Int32.not_lt.mp hc)))
theorem g_if_lt {K : gK} {own : String} {cc : ByteArray} {nL fr lo pc : Nat} {lv : List (Nat × Value)} {st : List Value} {h : Hp} {x : Int32} {off : Int} {tgt : Nat} {α : Type} {X : α} {A0 B0 : Option α} (S : Cx K own cc nL fr lo) (d : decode cc pc = .ok (.ifCond .lt off, 3)) (ht : (pc : Int) + off = (tgt : Int)) (hyp : (if x < 0 then A0 else B0) = some X) (kt : A0 = some X → Go K tgt lv st h) (kf : B0 = some X → Go K (pc + 3) lv st h) : Go K pc lv (.int x :: st) h := by
  obtain ⟨⟨p, l, e, R⟩, ⟨s, m, args, below⟩, ⟨meth, c, cells, slots⟩, ⟨D, cT, aD, A⟩, Q⟩ := K
  obtain ⟨hx, hb, hml, hown, hts, hK, hJ, hA, hAs, hce, hsl, hfr, hlo, hNW⟩ := S
  intro H locs ls hl hP hS
  by_cases hc : x < 0
  · rw [if_pos hc] at hyp
    exact lv_if_lt hx hb d ht (fun q => kt hyp H locs ls hl hP hS) (fun q => by first | exact absurd q hc | exact absurd hc q | exact absurd (Int32.not_lt.mpr q) (fun z => z hc) | exact absurd hc (Int32.not_lt.mpr q) | exact absurd (Int32.not_le.mp q) hc | exact absurd q (Int32.not_le.mpr hc) | exact absurd (Int32.not_lt.mp hc) q | exact absurd q (Int32.not_lt.mpr (Int32.not_lt.mp hc)))
  · rw [if_neg hc] at hyp
    exact lv_if_lt hx hb d ht (fun q => by first | exact absurd q hc | exact absurd hc q | exact absurd (Int32.not_lt.mpr q) (fun z => z hc) | exact absurd hc (Int32.not_lt.mpr q) | exact absurd (Int32.not_le.mp q) hc | exact absurd q (Int32.not_le.mpr hc) | exact absurd (Int32.not_lt.mp hc) q | exact absurd q (Int32.not_lt.mpr (Int32.not_lt.mp hc))) (fun q => kf hyp H locs ls hl hP hS)
theorem g_icmp_lt {K : gK} {own : String} {cc : ByteArray} {nL fr lo pc : Nat} {lv : List (Nat × Value)} {st : List Value} {h : Hp} {x y : Int32} {off : Int} {tgt : Nat} {α : Type} {X : α} {A0 B0 : Option α} (S : Cx K own cc nL fr lo) (d : decode cc pc = .ok (.if_icmp .lt off, 3)) (ht : (pc : Int) + off = (tgt : Int)) (hyp : (if x < y then A0 else B0) = some X) (kt : A0 = some X → Go K tgt lv st h) (kf : B0 = some X → Go K (pc + 3) lv st h) : Go K pc lv (.int y :: .int x :: st) h := by
  obtain ⟨⟨p, l, e, R⟩, ⟨s, m, args, below⟩, ⟨meth, c, cells, slots⟩, ⟨D, cT, aD, A⟩, Q⟩ := K
  obtain ⟨hx, hb, hml, hown, hts, hK, hJ, hA, hAs, hce, hsl, hfr, hlo, hNW⟩ := S
  intro H locs ls hl hP hS
  by_cases hc : x < y
  · rw [if_pos hc] at hyp
    exact lv_icmp_lt hx hb d ht (fun q => kt hyp H locs ls hl hP hS) (fun q => by first | exact absurd q hc | exact absurd hc q | exact absurd (Int32.not_lt.mpr q) (fun z => z hc) | exact absurd hc (Int32.not_lt.mpr q) | exact absurd (Int32.not_le.mp q) hc | exact absurd q (Int32.not_le.mpr hc) | exact absurd (Int32.not_lt.mp hc) q | exact absurd q (Int32.not_lt.mpr (Int32.not_lt.mp hc)))
  · rw [if_neg hc] at hyp
    exact lv_icmp_lt hx hb d ht (fun q => by first | exact absurd q hc | exact absurd hc q | exact absurd (Int32.not_lt.mpr q) (fun z => z hc) | exact absurd hc (Int32.not_lt.mpr q) | exact absurd (Int32.not_le.mp q) hc | exact absurd q (Int32.not_le.mpr hc) | exact absurd (Int32.not_lt.mp hc) q | exact absurd q (Int32.not_lt.mpr (Int32.not_lt.mp hc))) (fun q => kf hyp H locs ls hl hP hS)
theorem g_if_ge {K : gK} {own : String} {cc : ByteArray} {nL fr lo pc : Nat} {lv : List (Nat × Value)} {st : List Value} {h : Hp} {x : Int32} {off : Int} {tgt : Nat} {α : Type} {X : α} {A0 B0 : Option α} (S : Cx K own cc nL fr lo) (d : decode cc pc = .ok (.ifCond .ge off, 3)) (ht : (pc : Int) + off = (tgt : Int)) (hyp : (if x < 0 then A0 else B0) = some X) (kt : A0 = some X → Go K (pc + 3) lv st h) (kf : B0 = some X → Go K tgt lv st h) : Go K pc lv (.int x :: st) h := by
  obtain ⟨⟨p, l, e, R⟩, ⟨s, m, args, below⟩, ⟨meth, c, cells, slots⟩, ⟨D, cT, aD, A⟩, Q⟩ := K
  obtain ⟨hx, hb, hml, hown, hts, hK, hJ, hA, hAs, hce, hsl, hfr, hlo, hNW⟩ := S
  intro H locs ls hl hP hS
  by_cases hc : x < 0
  · rw [if_pos hc] at hyp
    exact lv_if_ge hx hb d ht (fun q => by first | exact absurd q hc | exact absurd hc q | exact absurd (Int32.not_lt.mpr q) (fun z => z hc) | exact absurd hc (Int32.not_lt.mpr q) | exact absurd (Int32.not_le.mp q) hc | exact absurd q (Int32.not_le.mpr hc) | exact absurd (Int32.not_lt.mp hc) q | exact absurd q (Int32.not_lt.mpr (Int32.not_lt.mp hc))) (fun q => kt hyp H locs ls hl hP hS)
  · rw [if_neg hc] at hyp
    exact lv_if_ge hx hb d ht (fun q => kf hyp H locs ls hl hP hS) (fun q => by first | exact absurd q hc | exact absurd hc q | exact absurd (Int32.not_lt.mpr q) (fun z => z hc) | exact absurd hc (Int32.not_lt.mpr q) | exact absurd (Int32.not_le.mp q) hc | exact absurd q (Int32.not_le.mpr hc) | exact absurd (Int32.not_lt.mp hc) q | exact absurd q (Int32.not_lt.mpr (Int32.not_lt.mp hc)))
theorem g_icmp_ge {K : gK} {own : String} {cc : ByteArray} {nL fr lo pc : Nat} {lv : List (Nat × Value)} {st : List Value} {h : Hp} {x y : Int32} {off : Int} {tgt : Nat} {α : Type} {X : α} {A0 B0 : Option α} (S : Cx K own cc nL fr lo) (d : decode cc pc = .ok (.if_icmp .ge off, 3)) (ht : (pc : Int) + off = (tgt : Int)) (hyp : (if x < y then A0 else B0) = some X) (kt : A0 = some X → Go K (pc + 3) lv st h) (kf : B0 = some X → Go K tgt lv st h) : Go K pc lv (.int y :: .int x :: st) h := by
  obtain ⟨⟨p, l, e, R⟩, ⟨s, m, args, below⟩, ⟨meth, c, cells, slots⟩, ⟨D, cT, aD, A⟩, Q⟩ := K
  obtain ⟨hx, hb, hml, hown, hts, hK, hJ, hA, hAs, hce, hsl, hfr, hlo, hNW⟩ := S
  intro H locs ls hl hP hS
  by_cases hc : x < y
  · rw [if_pos hc] at hyp
    exact lv_icmp_ge hx hb d ht (fun q => by first | exact absurd q hc | exact absurd hc q | exact absurd (Int32.not_lt.mpr q) (fun z => z hc) | exact absurd hc (Int32.not_lt.mpr q) | exact absurd (Int32.not_le.mp q) hc | exact absurd q (Int32.not_le.mpr hc) | exact absurd (Int32.not_lt.mp hc) q | exact absurd q (Int32.not_lt.mpr (Int32.not_lt.mp hc))) (fun q => kt hyp H locs ls hl hP hS)
  · rw [if_neg hc] at hyp
    exact lv_icmp_ge hx hb d ht (fun q => kf hyp H locs ls hl hP hS) (fun q => by first | exact absurd q hc | exact absurd hc q | exact absurd (Int32.not_lt.mpr q) (fun z => z hc) | exact absurd hc (Int32.not_lt.mpr q) | exact absurd (Int32.not_le.mp q) hc | exact absurd q (Int32.not_le.mpr hc) | exact absurd (Int32.not_lt.mp hc) q | exact absurd q (Int32.not_lt.mpr (Int32.not_lt.mp hc)))
theorem g_if_gt {K : gK} {own : String} {cc : ByteArray} {nL fr lo pc : Nat} {lv : List (Nat × Value)} {st : List Value} {h : Hp} {x : Int32} {off : Int} {tgt : Nat} {α : Type} {X : α} {A0 B0 : Option α} (S : Cx K own cc nL fr lo) (d : decode cc pc = .ok (.ifCond .gt off, 3)) (ht : (pc : Int) + off = (tgt : Int)) (hyp : (if 0 < x then A0 else B0) = some X) (kt : A0 = some X → Go K tgt lv st h) (kf : B0 = some X → Go K (pc + 3) lv st h) : Go K pc lv (.int x :: st) h := by
  obtain ⟨⟨p, l, e, R⟩, ⟨s, m, args, below⟩, ⟨meth, c, cells, slots⟩, ⟨D, cT, aD, A⟩, Q⟩ := K
  obtain ⟨hx, hb, hml, hown, hts, hK, hJ, hA, hAs, hce, hsl, hfr, hlo, hNW⟩ := S
  intro H locs ls hl hP hS
  by_cases hc : 0 < x
  · rw [if_pos hc] at hyp
    exact lv_if_gt hx hb d ht (fun q => kt hyp H locs ls hl hP hS) (fun q => by first | exact absurd q hc | exact absurd hc q | exact absurd (Int32.not_lt.mpr q) (fun z => z hc) | exact absurd hc (Int32.not_lt.mpr q) | exact absurd (Int32.not_le.mp q) hc | exact absurd q (Int32.not_le.mpr hc) | exact absurd (Int32.not_lt.mp hc) q | exact absurd q (Int32.not_lt.mpr (Int32.not_lt.mp hc)))
  · rw [if_neg hc] at hyp
    exact lv_if_gt hx hb d ht (fun q => by first | exact absurd q hc | exact absurd hc q | exact absurd (Int32.not_lt.mpr q) (fun z => z hc) | exact absurd hc (Int32.not_lt.mpr q) | exact absurd (Int32.not_le.mp q) hc | exact absurd q (Int32.not_le.mpr hc) | exact absurd (Int32.not_lt.mp hc) q | exact absurd q (Int32.not_lt.mpr (Int32.not_lt.mp hc))) (fun q => kf hyp H locs ls hl hP hS)
theorem g_icmp_gt {K : gK} {own : String} {cc : ByteArray} {nL fr lo pc : Nat} {lv : List (Nat × Value)} {st : List Value} {h : Hp} {x y : Int32} {off : Int} {tgt : Nat} {α : Type} {X : α} {A0 B0 : Option α} (S : Cx K own cc nL fr lo) (d : decode cc pc = .ok (.if_icmp .gt off, 3)) (ht : (pc : Int) + off = (tgt : Int)) (hyp : (if y < x then A0 else B0) = some X) (kt : A0 = some X → Go K tgt lv st h) (kf : B0 = some X → Go K (pc + 3) lv st h) : Go K pc lv (.int y :: .int x :: st) h := by
  obtain ⟨⟨p, l, e, R⟩, ⟨s, m, args, below⟩, ⟨meth, c, cells, slots⟩, ⟨D, cT, aD, A⟩, Q⟩ := K
  obtain ⟨hx, hb, hml, hown, hts, hK, hJ, hA, hAs, hce, hsl, hfr, hlo, hNW⟩ := S
  intro H locs ls hl hP hS
  by_cases hc : y < x
  · rw [if_pos hc] at hyp
    exact lv_icmp_gt hx hb d ht (fun q => kt hyp H locs ls hl hP hS) (fun q => by first | exact absurd q hc | exact absurd hc q | exact absurd (Int32.not_lt.mpr q) (fun z => z hc) | exact absurd hc (Int32.not_lt.mpr q) | exact absurd (Int32.not_le.mp q) hc | exact absurd q (Int32.not_le.mpr hc) | exact absurd (Int32.not_lt.mp hc) q | exact absurd q (Int32.not_lt.mpr (Int32.not_lt.mp hc)))
  · rw [if_neg hc] at hyp
    exact lv_icmp_gt hx hb d ht (fun q => by first | exact absurd q hc | exact absurd hc q | exact absurd (Int32.not_lt.mpr q) (fun z => z hc) | exact absurd hc (Int32.not_lt.mpr q) | exact absurd (Int32.not_le.mp q) hc | exact absurd q (Int32.not_le.mpr hc) | exact absurd (Int32.not_lt.mp hc) q | exact absurd q (Int32.not_lt.mpr (Int32.not_lt.mp hc))) (fun q => kf hyp H locs ls hl hP hS)
theorem g_if_le {K : gK} {own : String} {cc : ByteArray} {nL fr lo pc : Nat} {lv : List (Nat × Value)} {st : List Value} {h : Hp} {x : Int32} {off : Int} {tgt : Nat} {α : Type} {X : α} {A0 B0 : Option α} (S : Cx K own cc nL fr lo) (d : decode cc pc = .ok (.ifCond .le off, 3)) (ht : (pc : Int) + off = (tgt : Int)) (hyp : (if 0 < x then A0 else B0) = some X) (kt : A0 = some X → Go K (pc + 3) lv st h) (kf : B0 = some X → Go K tgt lv st h) : Go K pc lv (.int x :: st) h := by
  obtain ⟨⟨p, l, e, R⟩, ⟨s, m, args, below⟩, ⟨meth, c, cells, slots⟩, ⟨D, cT, aD, A⟩, Q⟩ := K
  obtain ⟨hx, hb, hml, hown, hts, hK, hJ, hA, hAs, hce, hsl, hfr, hlo, hNW⟩ := S
  intro H locs ls hl hP hS
  by_cases hc : 0 < x
  · rw [if_pos hc] at hyp
    exact lv_if_le hx hb d ht (fun q => by first | exact absurd q hc | exact absurd hc q | exact absurd (Int32.not_lt.mpr q) (fun z => z hc) | exact absurd hc (Int32.not_lt.mpr q) | exact absurd (Int32.not_le.mp q) hc | exact absurd q (Int32.not_le.mpr hc) | exact absurd (Int32.not_lt.mp hc) q | exact absurd q (Int32.not_lt.mpr (Int32.not_lt.mp hc))) (fun q => kt hyp H locs ls hl hP hS)
  · rw [if_neg hc] at hyp
    exact lv_if_le hx hb d ht (fun q => kf hyp H locs ls hl hP hS) (fun q => by first | exact absurd q hc | exact absurd hc q | exact absurd (Int32.not_lt.mpr q) (fun z => z hc) | exact absurd hc (Int32.not_lt.mpr q) | exact absurd (Int32.not_le.mp q) hc | exact absurd q (Int32.not_le.mpr hc) | exact absurd (Int32.not_lt.mp hc) q | exact absurd q (Int32.not_lt.mpr (Int32.not_lt.mp hc)))
theorem g_icmp_le {K : gK} {own : String} {cc : ByteArray} {nL fr lo pc : Nat} {lv : List (Nat × Value)} {st : List Value} {h : Hp} {x y : Int32} {off : Int} {tgt : Nat} {α : Type} {X : α} {A0 B0 : Option α} (S : Cx K own cc nL fr lo) (d : decode cc pc = .ok (.if_icmp .le off, 3)) (ht : (pc : Int) + off = (tgt : Int)) (hyp : (if y < x then A0 else B0) = some X) (kt : A0 = some X → Go K (pc + 3) lv st h) (kf : B0 = some X → Go K tgt lv st h) : Go K pc lv (.int y :: .int x :: st) h := by
  obtain ⟨⟨p, l, e, R⟩, ⟨s, m, args, below⟩, ⟨meth, c, cells, slots⟩, ⟨D, cT, aD, A⟩, Q⟩ := K
  obtain ⟨hx, hb, hml, hown, hts, hK, hJ, hA, hAs, hce, hsl, hfr, hlo, hNW⟩ := S
  intro H locs ls hl hP hS
  by_cases hc : y < x
  · rw [if_pos hc] at hyp
    exact lv_icmp_le hx hb d ht (fun q => by first | exact absurd q hc | exact absurd hc q | exact absurd (Int32.not_lt.mpr q) (fun z => z hc) | exact absurd hc (Int32.not_lt.mpr q) | exact absurd (Int32.not_le.mp q) hc | exact absurd q (Int32.not_le.mpr hc) | exact absurd (Int32.not_lt.mp hc) q | exact absurd q (Int32.not_lt.mpr (Int32.not_lt.mp hc))) (fun q => kt hyp H locs ls hl hP hS)
  · rw [if_neg hc] at hyp
    exact lv_icmp_le hx hb d ht (fun q => kf hyp H locs ls hl hP hS) (fun q => by first | exact absurd q hc | exact absurd hc q | exact absurd (Int32.not_lt.mpr q) (fun z => z hc) | exact absurd hc (Int32.not_lt.mpr q) | exact absurd (Int32.not_le.mp q) hc | exact absurd q (Int32.not_le.mpr hc) | exact absurd (Int32.not_lt.mp hc) q | exact absurd q (Int32.not_lt.mpr (Int32.not_lt.mp hc)))
