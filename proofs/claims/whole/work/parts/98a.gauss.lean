/-! the certificate: Gauss over three rows, and numbers without a common divisor -/
def gf (f : Nat → Int) : Nat → Nat
  | 0 => 0
  | n + 1 => Nat.gcd (gf f n) (f n).natAbs
theorem gf_mul (c : Int) (f : Nat → Int) : ∀ n, gf (fun i => c * f i) n = c.natAbs * gf f n
  | 0 => by simp [gf]
  | n + 1 => by
    unfold gf
    rw [gf_mul c f n, Int.natAbs_mul, Nat.gcd_mul_left]
theorem gf_congr {f g : Nat → Int} : ∀ {n : Nat}, (∀ i, i < n → f i = g i) → gf f n = gf g n
  | 0, _ => rfl
  | n + 1, h => by
    unfold gf
    rw [gf_congr (fun i hi => h i (by omega)), h n (by omega)]
theorem gf_dvd {f : Nat → Int} : ∀ {n i : Nat}, i < n → ((gf f n : Nat) : Int) ∣ f i
  | n + 1, i, h => by
    have h1 : gf f (n + 1) ∣ gf f n := Nat.gcd_dvd_left _ _
    have h2 : gf f (n + 1) ∣ (f n).natAbs := Nat.gcd_dvd_right _ _
    rcases (show i < n ∨ i = n by omega) with q | rfl
    · exact Int.dvd_trans (Int.natCast_dvd_natCast.mpr h1) (gf_dvd q)
    · exact Int.dvd_natAbs.mp (Int.natCast_dvd_natCast.mpr h2)
theorem gf_pos {f : Nat → Int} {n i : Nat} (hi : i < n) (hf : f i ≠ 0) : 0 < gf f n := by
  rcases Nat.eq_zero_or_pos (gf f n) with q | q
  · have := gf_dvd (f := f) hi
    rw [q] at this
    have := Int.zero_dvd.mp this
    exact absurd this hf
  · exact q
theorem ratio {f s : Nat → Int} {n r : Nat} (hr : r < n) (hf : f r ≠ 0) (hs : s r ≠ 0) (h : ∀ i, i < n → f r * s i = s r * f i) {i : Nat} (hi : i < n) : (0 < s r * f r → s i / ((gf s n : Nat) : Int) = f i / ((gf f n : Nat) : Int)) ∧ (s r * f r < 0 → s i / (-((gf s n : Nat) : Int)) = f i / ((gf f n : Nat) : Int)) := by
  have gs := gf_pos hr hs
  have gp := gf_pos hr hf
  have key : (f r).natAbs * gf s n = (s r).natAbs * gf f n := by
    rw [← gf_mul, ← gf_mul]; exact gf_congr h
  obtain ⟨a, ha⟩ := gf_dvd (f := s) hi
  obtain ⟨b, hb⟩ := gf_dvd (f := f) hi
  have e := h i hi
  have k2 : ((f r).natAbs : Int) * (gf s n : Int) = ((s r).natAbs : Int) * (gf f n : Int) := by exact_mod_cast key
  have W : 0 < ((f r).natAbs : Int) * (gf s n : Int) := Int.mul_pos (by omega) (by omega)
  rw [ha, hb] at e
  generalize hgs : ((gf s n : Nat) : Int) = Gs at *
  generalize hgf : ((gf f n : Nat) : Int) = Gf at *
  have Gs0 : Gs ≠ 0 := by omega
  have Gf0 : Gf ≠ 0 := by omega
  rw [ha, hb]
  constructor
  · intro hp
    rw [Int.mul_ediv_cancel_left _ Gs0, Int.mul_ediv_cancel_left _ Gf0]
    have e2 : (((f r).natAbs : Int) * Gs) * a = (((f r).natAbs : Int) * Gs) * b := by
      rcases Int.lt_or_le 0 (f r) with y | y
      · have : 0 < s r := by
          rcases Int.lt_or_le 0 (s r) with z | z
          · exact z
          · have := Int.mul_nonneg (show 0 ≤ - s r by omega) (Int.le_of_lt y); rw [Int.neg_mul] at this; omega
        rw [show ((f r).natAbs : Int) = f r by omega, show ((s r).natAbs : Int) = s r by omega] at *
        rw [k2] ; rw [← k2]; grind
      · have : s r < 0 := by
          rcases Int.lt_or_le (s r) 0 with z | z
          · exact z
          · have := Int.mul_nonneg z (show 0 ≤ - f r by omega); rw [Int.mul_neg] at this; omega
        rw [show ((f r).natAbs : Int) = - f r by omega, show ((s r).natAbs : Int) = - s r by omega] at *
        grind
    exact Int.eq_of_mul_eq_mul_left (by omega) e2
  · intro hp
    rw [Int.ediv_neg, Int.mul_ediv_cancel_left _ Gs0, Int.mul_ediv_cancel_left _ Gf0]
    have e2 : (((f r).natAbs : Int) * Gs) * (-a) = (((f r).natAbs : Int) * Gs) * b := by
      rcases Int.lt_or_le 0 (f r) with y | y
      · have : s r < 0 := by
          rcases Int.lt_or_le (s r) 0 with z | z
          · exact z
          · have := Int.mul_nonneg z (Int.le_of_lt y); omega
        rw [show ((f r).natAbs : Int) = f r by omega, show ((s r).natAbs : Int) = - s r by omega] at *
        grind
      · have : 0 < s r := by
          rcases Int.lt_or_le 0 (s r) with z | z
          · exact z
          · have := Int.mul_nonneg (show 0 ≤ - s r by omega) (show 0 ≤ - f r by omega); rw [Int.neg_mul_neg] at this; omega
        rw [show ((f r).natAbs : Int) = - f r by omega, show ((s r).natAbs : Int) = s r by omega] at *
        grind
    exact Int.eq_of_mul_eq_mul_left (by omega) e2
/-! three rows -/
def rs (f : Nat → Int) : Nat → Int
  | 0 => 0
  | n + 1 => rs f n + f n
theorem rs_congr {f g : Nat → Int} : ∀ {n : Nat}, (∀ i, i < n → f i = g i) → rs f n = rs g n
  | 0, _ => rfl
  | n + 1, h => by
    unfold rs
    rw [rs_congr (fun i hi => h i (by omega)), h n (by omega)]
theorem rs_lin (f g : Nat → Int) (a b : Int) : ∀ n, rs (fun i => a * f i - b * g i) n = a * rs f n - b * rs g n
  | 0 => by simp [rs]
  | n + 1 => by
    unfold rs
    rw [rs_lin f g a b n]; grind
def NS (A : Nat → Nat → Int) (n : Nat) (x : Nat → Int) : Prop := ∀ v, v < 3 → rs (fun j => A v j * x j) n = 0
def swp (A : Nat → Nat → Int) (a b : Nat) : Nat → Nat → Int := fun v j => if v = a then A b j else if v = b then A a j else A v j
def clr (A : Nat → Nat → Int) (P j : Nat) : Nat → Nat → Int := fun u k => if u ≠ P ∧ A u j ≠ 0 then A u k * A P j - A P k * A u j else A u k
theorem NS_swp {A : Nat → Nat → Int} {n a b : Nat} {x : Nat → Int} (ha : a < 3) (hb : b < 3) : NS (swp A a b) n x ↔ NS A n x := by
  have e : ∀ v, rs (fun j => swp A a b v j * x j) n = rs (fun j => A (if v = a then b else if v = b then a else v) j * x j) n := fun v => by
    apply rs_congr
    intro j _
    unfold swp
    by_cases c : v = a
    · rw [if_pos c, if_pos c]
    · rw [if_neg c, if_neg c]
      by_cases d : v = b
      · rw [if_pos d, if_pos d]
      · rw [if_neg d, if_neg d]
  constructor
  · intro h v hv
    have := h (if v = a then b else if v = b then a else v) (by split; omega; split <;> omega)
    rw [e] at this
    have k : (if (if v = a then b else if v = b then a else v) = a then b else if (if v = a then b else if v = b then a else v) = b then a else (if v = a then b else if v = b then a else v)) = v := by
      by_cases c : v = a
      · simp only [if_pos c]
        by_cases d : b = a
        · rw [if_pos d]; omega
        · rw [if_neg d, if_pos (by trivial)]; omega
      · simp only [if_neg c]
        by_cases d : v = b
        · simp only [if_pos d, if_true]; omega
        · simp only [if_neg d, if_neg c]
    rw [k] at this
    exact this
  · intro h v hv
    rw [e]
    exact h _ (by split; omega; split <;> omega)
theorem NS_clr {A : Nat → Nat → Int} {n P j : Nat} {x : Nat → Int} (hP : P < 3) (h0 : A P j ≠ 0) : NS (clr A P j) n x ↔ NS A n x := by
  have rowP : rs (fun k => clr A P j P k * x k) n = rs (fun k => A P k * x k) n := rs_congr (fun k _ => by unfold clr; rw [if_neg (by simp)])
  have row : ∀ v, v ≠ P → A v j ≠ 0 → rs (fun k => clr A P j v k * x k) n = A P j * rs (fun k => A v k * x k) n - A v j * rs (fun k => A P k * x k) n := fun v hv hn => by
    rw [← rs_lin]
    apply rs_congr
    intro k _
    unfold clr
    rw [if_pos ⟨hv, hn⟩]; grind
  have row0 : ∀ v, A v j = 0 → rs (fun k => clr A P j v k * x k) n = rs (fun k => A v k * x k) n := fun v hn => rs_congr (fun k _ => by unfold clr; rw [if_neg (by simp [hn])])
  constructor
  · intro h v hv
    have hp := h P hP
    rw [rowP] at hp
    by_cases c : v = P
    · subst c; exact hp
    · have hv2 := h v hv
      by_cases d : A v j = 0
      · rw [row0 v d] at hv2; exact hv2
      · rw [row v c d, hp, Int.mul_zero, Int.sub_zero] at hv2
        rcases Int.mul_eq_zero.mp hv2 with z | z
        · exact absurd z h0
        · exact z
  · intro h v hv
    by_cases c : v = P
    · subst c; rw [rowP]; exact h v hv
    · by_cases d : A v j = 0
      · rw [row0 v d]; exact h v hv
      · rw [row v c d, h v hv, h P hP]; simp
def Diag (A : Nat → Nat → Int) (d : Nat) : Prop := ∀ i, i < d → A i i ≠ 0 ∧ ∀ u, u < 3 → u ≠ i → A u i = 0
theorem diag_step {A : Nat → Nat → Int} {d v : Nat} (hD : Diag A d) (hd : d < 3) (hv : d ≤ v) (hv3 : v < 3) (h0 : A v d ≠ 0) : Diag (clr (swp A d v) d d) (d + 1) := by
  have s_i : ∀ i, i < d → ∀ j, swp A d v i j = A i j := fun i hi j => by unfold swp; rw [if_neg (by omega), if_neg (by omega)]
  have s_d : ∀ j, swp A d v d j = A v j := fun j => by unfold swp; rw [if_pos rfl]
  have s_0 : ∀ i, i < d → ∀ u, u < 3 → u ≠ i → swp A d v u i = 0 := fun i hi u hu hui => by
    unfold swp
    by_cases c : u = d
    · rw [if_pos c]; exact (hD i hi).2 v hv3 (by omega)
    · rw [if_neg c]
      by_cases e : u = v
      · rw [if_pos e]; exact (hD i hi).2 d hd (by omega)
      · rw [if_neg e]; exact (hD i hi).2 u hu hui
  generalize swp A d v = A1 at *
  have h1 : A1 d d ≠ 0 := by rw [s_d]; exact h0
  intro i hi
  rcases (show i < d ∨ i = d by omega) with q | rfl
  · have z := s_0 i q d hd (by omega)
    refine ⟨?_, fun u hu hui => ?_⟩
    · unfold clr
      by_cases c : i ≠ d ∧ A1 i d ≠ 0
      · rw [if_pos c, z, Int.zero_mul, Int.sub_zero, s_i i q]
        intro y
        rcases Int.mul_eq_zero.mp y with y | y
        · exact (hD i q).1 y
        · exact h1 y
      · rw [if_neg c, s_i i q]; exact (hD i q).1
    · unfold clr
      by_cases c : u ≠ d ∧ A1 u d ≠ 0
      · rw [if_pos c, z, s_0 i q u hu hui]; simp
      · rw [if_neg c]; exact s_0 i q u hu hui
  · refine ⟨?_, fun u hu hui => ?_⟩
    · unfold clr; rw [if_neg (by simp)]; exact h1
    · unfold clr
      by_cases c : A1 u i = 0
      · rw [if_neg (by simp [c])]; exact c
      · rw [if_pos ⟨hui, c⟩]; grind
def Bnd (A : Nat → Nat → Int) (n : Nat) (b : Nat → Int) : Prop := ∀ v j, v < 3 → j < n → -b v ≤ A v j ∧ A v j ≤ b v
theorem bnd_swp {A : Nat → Nat → Int} {n a c : Nat} {b : Nat → Int} (h : Bnd A n b) (ha : a < 3) (hc : c < 3) (hb : b a = b c) : Bnd (swp A a c) n b := by
  intro v j hv hj
  unfold swp
  by_cases c1 : v = a
  · rw [if_pos c1, c1, hb]; exact h c j hc hj
  · rw [if_neg c1]
    by_cases c2 : v = c
    · rw [if_pos c2, c2, ← hb]; exact h a j ha hj
    · rw [if_neg c2]; exact h v j hv hj
theorem bnd_clr {A : Nat → Nat → Int} {n P j : Nat} {b b' : Nat → Int} (h : Bnd A n b) (hP : P < 3) (hj : j < n) (h1 : ∀ v, v < 3 → 1 ≤ b v) (e0 : b' P = b P) (e1 : ∀ v, v < 3 → v ≠ P → b' v = 2 * (b v * b P)) : Bnd (clr A P j) n b' := by
  intro v k hv hk
  unfold clr
  have hp := h1 P hP
  have hvb := h1 v hv
  by_cases c : v = P
  · rw [if_neg (by simp [c]), c, e0]; exact h P k hP hk
  · rw [e1 v hv c]
    have m1 := mulb (A := b v) (B := b P) (h v k hv hk).1 (h v k hv hk).2 (h P j hP hj).1 (h P j hP hj).2
    have m2 := mulb (A := b P) (B := b v) (h P k hP hk).1 (h P k hP hk).2 (h v j hv hj).1 (h v j hv hj).2
    have e : b P * b v = b v * b P := Int.mul_comm _ _
    by_cases d : A v j = 0
    · rw [if_neg (by simp [d])]
      have := h v k hv hk
      have m3 : b v * 1 ≤ b v * b P := Int.mul_le_mul_of_nonneg_left hp (by omega)
      omega
    · rw [if_pos ⟨c, d⟩]; omega
/-- where all but the last column are independent: a pivot -/
theorem pivot_ex {A : Nat → Nat → Int} {n d : Nat} (hD : Diag A d) (hd : d + 1 < n) (hn : n ≤ 4) (hmin : ∀ x, NS A n x → (∃ i, i < n ∧ x i = 0) → ∀ i, i < n → x i = 0) : ∃ v, d ≤ v ∧ v < 3 ∧ A v d ≠ 0 := by
  by_cases c : ∃ v, d ≤ v ∧ v < 3 ∧ A v d ≠ 0
  · exact c
  · exfalso
    have hz : ∀ v, d ≤ v → v < 3 → A v d = 0 := fun v h1 h2 => by
      by_cases e : A v d = 0
      · exact e
      · exact absurd ⟨v, h1, h2, e⟩ c
    rcases (show d = 0 ∨ d = 1 ∨ d = 2 by omega) with rfl | rfl | rfl
    · have := hmin (fun i => if i = 0 then 1 else 0) (fun v hv => by
        rcases (show n = 2 ∨ n = 3 ∨ n = 4 by omega) with rfl | rfl | rfl <;> simp [rs, hz v (by omega) hv]) ⟨n - 1, by omega, by simp; omega⟩ 0 (by omega)
      simp at this
    · have a0 := hD 0 (by omega)
      have := hmin (fun i => if i = 0 then - A 0 1 else if i = 1 then A 0 0 else 0) (fun v hv => by
        rcases (show v = 0 ∨ 1 ≤ v by omega) with rfl | q
        · rcases (show n = 3 ∨ n = 4 by omega) with rfl | rfl <;> simp [rs] <;> grind
        · rcases (show n = 3 ∨ n = 4 by omega) with rfl | rfl <;> simp [rs, hz v (by omega) hv, a0.2 v hv (by omega)]) ⟨n - 1, by omega, by simp; omega⟩ 1 (by omega)
      simp at this
      exact a0.1 this
    · have a0 := hD 0 (by omega)
      have a1 := hD 1 (by omega)
      have e4 : n = 4 := by omega
      subst e4
      have := hmin (fun i => if i = 0 then - A 0 2 * A 1 1 else if i = 1 then - A 1 2 * A 0 0 else if i = 2 then A 0 0 * A 1 1 else 0) (fun v hv => by
        rcases (show v = 0 ∨ v = 1 ∨ v = 2 by omega) with rfl | rfl | rfl
        · simp [rs, a1.2 0 (by omega) (by omega)]; grind
        · simp [rs, a0.2 1 (by omega) (by omega)]; grind
        · simp [rs, a0.2 2 (by omega) (by omega), a1.2 2 (by omega) (by omega), hz 2 (by omega) (by omega)]) ⟨3, by omega, by simp⟩ 2 (by omega)
      simp at this
      rcases Int.mul_eq_zero.mp this with z | z
      · exact a0.1 z
      · exact a1.1 z
/-- the last column: none -/
theorem last_none {A : Nat → Nat → Int} {r : Nat} (hD : Diag A r) (hr : r ≤ 3) {x : Nat → Int} (hx : NS A (r + 1) x) (h0 : x r ≠ 0) : ∀ v, r ≤ v → v < 3 → A v r = 0 := by
  intro v h1 h2
  have := hx v h2
  unfold rs at this
  have z : rs (fun j => A v j * x j) r = 0 := by
    have : rs (fun j => A v j * x j) r = rs (fun _ => 0) r := rs_congr (fun i hi => by rw [(hD i hi).2 v h2 (by omega)]; simp)
    rw [this]
    have : ∀ n, rs (fun _ => 0) n = 0 := fun n => by
      induction n with
      | zero => rfl
      | succ n ih => unfold rs; rw [ih]; rfl
    exact this r
  rw [z, Int.zero_add] at this
  rcases Int.mul_eq_zero.mp this with y | y
  · exact y
  · exact absurd y h0
