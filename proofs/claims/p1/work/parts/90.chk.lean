/-! A CHECK FOR THE KERNEL: points come one by one, the mesh is mended, every triangle told by tests in numbers. By hand. -/
noncomputable def nF {α : Type} (t : Nat) (f : Nat → α) : α := Nat.rec (motive := fun _ => α) (f 0) (fun m _ => f (Nat.succ m)) t
theorem nF_e {α : Type} (t : Nat) (f : Nat → α) : nF t f = f t := by cases t <;> rfl
noncomputable def bR {α : Type} (c : Bool) (t e : α) : α := Bool.rec (motive := fun _ => α) e t c
theorem bR_and {c b : Bool} (h : bR c b false = true) : c = true ∧ b = true := by
  cases c
  · cases h
  · exact ⟨rfl, h⟩
theorem bR_or {c b : Bool} (h : bR c true b = true) : c = true ∨ b = true := by
  cases c
  · exact .inr h
  · exact .inl rfl
noncomputable def lAll {α : Type} (P : α → Bool) (L : List α) : Bool := List.rec (motive := fun _ => Bool) true (fun a _ ih => bR (P a) ih false) L
theorem lAll_ok {α : Type} {P : α → Bool} : ∀ {L : List α}, lAll P L = true → ∀ a, a ∈ L → P a = true := by
  intro L
  induction L with
  | nil => intro _ a h; cases h
  | cons b L ih =>
    intro h a ha
    have h : bR (P b) (lAll P L) false = true := h
    obtain ⟨h1, h2⟩ := bR_and h
    rcases List.mem_cons.mp ha with rfl | ha
    · exact h1
    · exact ih h2 a ha
noncomputable def lAny {α : Type} (P : α → Bool) (L : List α) : Bool := List.rec (motive := fun _ => Bool) false (fun a _ ih => bR (P a) true ih) L
theorem lAny_ok {α : Type} {P : α → Bool} : ∀ {L : List α}, lAny P L = true → ∃ a, a ∈ L ∧ P a = true := by
  intro L
  induction L with
  | nil => intro h; cases h
  | cons b L ih =>
    intro h
    have h : bR (P b) true (lAny P L) = true := h
    rcases bR_or h with h1 | h1
    · exact ⟨b, List.mem_cons_self, h1⟩
    · obtain ⟨a, ha, h2⟩ := ih h1
      exact ⟨a, List.mem_cons_of_mem _ ha, h2⟩
theorem lAny_no {α : Type} {P : α → Bool} : ∀ {L : List α}, lAny P L = false → ∀ a, a ∈ L → P a = false := by
  intro L
  induction L with
  | nil => intro _ a h; cases h
  | cons b L ih =>
    intro h a ha
    have h : bR (P b) true (lAny P L) = false := h
    cases hb : P b with
    | true => rw [hb] at h; cases h
    | false =>
      rw [hb] at h
      rcases List.mem_cons.mp ha with rfl | ha
      · exact hb
      · exact ih h a ha
noncomputable def lFil {α β : Type} (P : α → Bool) (L : List α) : (List α → β) → β := List.rec (motive := fun _ => (List α → β) → β) (fun c => c []) (fun a _ ih c => bR (P a) (ih (fun r => c (a :: r))) (ih c)) L
theorem lFil_e {α β : Type} {P : α → Bool} : ∀ {L : List α} {c : List α → β}, lFil P L c = c (L.filter P) := by
  intro L
  induction L with
  | nil => intro c; rfl
  | cons a L ih =>
    intro c
    show bR (P a) (lFil P L (fun r => c (a :: r))) (lFil P L c) = _
    rw [List.filter_cons]
    cases P a
    · show lFil P L c = _
      rw [ih]
      rfl
    · show lFil P L (fun r => c (a :: r)) = _
      rw [ih]
      rfl
noncomputable def lPar {α β : Type} (P : α → Bool) (L : List α) : (List α → List α → β) → β := List.rec (motive := fun _ => (List α → List α → β) → β) (fun c => c [] []) (fun a _ ih c => bR (P a) (ih (fun r s => c (a :: r) s)) (ih (fun r s => c r (a :: s)))) L
theorem lPar_e {α β : Type} {P : α → Bool} : ∀ {L : List α} {c : List α → List α → β}, lPar P L c = c (L.filter P) (L.filter (fun a => !(P a))) := by
  intro L
  induction L with
  | nil => intro c; rfl
  | cons a L ih =>
    intro c
    show bR (P a) (lPar P L (fun r s => c (a :: r) s)) (lPar P L (fun r s => c r (a :: s))) = _
    rw [List.filter_cons, List.filter_cons]
    cases P a
    · show lPar P L (fun r s => c r (a :: s)) = _
      rw [ih]
      rfl
    · show lPar P L (fun r s => c (a :: r) s) = _
      rw [ih]
      rfl
/-- a point: its number, x, y, x x + y y, two numbers more -/
abbrev PT : Type := (Nat × Nat) × ((Nat × Nat) × (Nat × Nat))
/-- a triangle, and four numbers of the plane through its corners, lifted -/
abbrev TR : Type := Tri × ((Nat × Nat) × (Nat × Nat))
def d0 : PT := ((0, 0), ((0, 0), (0, 0)))
noncomputable def lkC {β : Type} (P : List PT) (k : Nat) : (PT → β) → β := List.rec (motive := fun _ => (PT → β) → β) (fun c => c d0) (fun a _ ih c => bR (Nat.beq a.1.1 k) (c a) (ih c)) P
noncomputable def lk (P : List PT) (k : Nat) : PT := lkC P k (fun a => a)
theorem lkC_e {β : Type} {k : Nat} : ∀ {P : List PT} {c : PT → β}, lkC P k c = c (lk P k) := by
  intro P
  induction P with
  | nil => intro c; rfl
  | cons a P ih =>
    intro c
    show bR (Nat.beq a.1.1 k) (c a) (lkC P k c) = c (bR (Nat.beq a.1.1 k) a (lkC P k (fun a => a)))
    cases Nat.beq a.1.1 k
    · exact ih
    · rfl
theorem lk_cons {P : List PT} {a : PT} {k : Nat} : lk (a :: P) k = bR (Nat.beq a.1.1 k) a (lk P k) := rfl
noncomputable def xP (P : List PT) (k : Nat) : Int := ((lk P k).1.2 : Int)
noncomputable def yP (P : List PT) (k : Nat) : Int := ((lk P k).2.1.1 : Int)
def wfP (e : PT) : Prop := e.2.1.2 = e.1.2 * e.1.2 + e.2.1.1 * e.2.1.1 ∧ e.2.2.1 = 1099511627776 * e.1.2 ∧ e.2.2.2 = 1125899906842624 + 1099511627776 * e.2.1.1 ∧ e.1.2 ≤ 2000 ∧ e.2.1.1 ≤ 2000
-- the test
noncomputable def oL (t : TR) (e : PT) : Nat := Nat.add (Nat.mul e.2.1.1 t.2.1.2) (Nat.add t.2.2.1 e.2.2.1)
noncomputable def oG (t : TR) (e : PT) : Nat := Nat.add (Nat.mul e.1.2 t.2.1.1) (Nat.add (Nat.mul e.2.1.2 t.2.2.2) e.2.2.2)
noncomputable def out1 (t : TR) (e : PT) : Bool := Nat.ble (Nat.succ (Nat.add (Nat.mul e.2.1.1 t.2.1.2) (Nat.add t.2.2.1 e.2.2.1))) (Nat.add (Nat.mul e.1.2 t.2.1.1) (Nat.add (Nat.mul e.2.1.2 t.2.2.2) e.2.2.2))
def pM1 (a b c : PT) : Int := (a.2.1.1 * b.2.1.2 + a.2.1.2 * c.2.1.1 + b.2.1.1 * c.2.1.2 : Int) - (a.2.1.1 * c.2.1.2 + a.2.1.2 * b.2.1.1 + c.2.1.1 * b.2.1.2 : Int)
def pM2 (a b c : PT) : Int := (a.1.2 * b.2.1.2 + a.2.1.2 * c.1.2 + b.1.2 * c.2.1.2 : Int) - (a.1.2 * c.2.1.2 + a.2.1.2 * b.1.2 + c.1.2 * b.2.1.2 : Int)
def pM4 (a b c : PT) : Int := (a.1.2 * (b.2.1.1 * c.2.1.2) + a.2.1.1 * (b.2.1.2 * c.1.2) + a.2.1.2 * (b.1.2 * c.2.1.1) : Int) - (a.1.2 * (b.2.1.2 * c.2.1.1) + a.2.1.1 * (b.1.2 * c.2.1.2) + a.2.1.2 * (b.2.1.1 * c.1.2) : Int)
def pTn (a b c : PT) : Int := (a.1.2 * b.2.1.1 + b.1.2 * c.2.1.1 + c.1.2 * a.2.1.1 : Int) - (a.2.1.1 * b.1.2 + b.2.1.1 * c.1.2 + c.2.1.1 * a.1.2 : Int)
/-- the numbers of a triangle are right -/
def trI (a b c : PT) (t : TR) : Prop := ((t.2.1.1 : Int) = 1099511627776 + pM1 a b c ∧ (t.2.1.2 : Int) = 1099511627776 + pM2 a b c) ∧ ((t.2.2.1 : Int) = 1125899906842624 + pM4 a b c ∧ (t.2.2.2 : Int) = pTn a b c)
theorem det_e {xa ya xb yb xc yc xe ye : Int} : jI (xa - xe) (ya - ye) (xb - xe) (yb - ye) (xc - xe) (yc - ye) = ye * ((xa * (xb * xb + yb * yb) + (xa * xa + ya * ya) * xc + xb * (xc * xc + yc * yc)) - (xa * (xc * xc + yc * yc) + (xa * xa + ya * ya) * xb + xc * (xb * xb + yb * yb))) - xe * ((ya * (xb * xb + yb * yb) + (xa * xa + ya * ya) * yc + yb * (xc * xc + yc * yc)) - (ya * (xc * xc + yc * yc) + (xa * xa + ya * ya) * yb + yc * (xb * xb + yb * yb))) - (xe * xe + ye * ye) * ((xa * yb + xb * yc + xc * ya) - (ya * xb + yb * xc + yc * xa)) + ((xa * (yb * (xc * xc + yc * yc)) + ya * ((xb * xb + yb * yb) * xc) + (xa * xa + ya * ya) * (xb * yc)) - (xa * ((xb * xb + yb * yb) * yc) + ya * (xb * (xc * xc + yc * yc)) + (xa * xa + ya * ya) * (yb * xc))) := by
  unfold jI
  grind
theorem lin_k {xe ye ze m1 m2 m4 T : Int} (h : ye * (1099511627776 + m2) + (1125899906842624 + m4 + 1099511627776 * xe) + 1 ≤ xe * (1099511627776 + m1) + (ze * T + (1125899906842624 + 1099511627776 * ye))) : ye * m2 - xe * m1 - ze * T + m4 < 0 := by
  rw [Int.mul_add, Int.mul_add] at h
  omega
theorem out1_ok {a b c e : PT} {t : TR} (ha : wfP a) (hb : wfP b) (hc : wfP c) (he : wfP e) (ht : trI a b c t) (h : out1 t e = true) : jI ((a.1.2 : Int) - (e.1.2 : Int)) ((a.2.1.1 : Int) - (e.2.1.1 : Int)) ((b.1.2 : Int) - (e.1.2 : Int)) ((b.2.1.1 : Int) - (e.2.1.1 : Int)) ((c.1.2 : Int) - (e.1.2 : Int)) ((c.2.1.1 : Int) - (e.2.1.1 : Int)) < 0 := by
  obtain ⟨⟨t1, t2⟩, t3, t4⟩ := ht
  unfold out1 at h
  have h := Nat.le_of_ble_eq_true h
  have h : (e.2.1.1 * t.2.1.2 + (t.2.2.1 + e.2.2.1)) + 1 ≤ e.1.2 * t.2.1.1 + (e.2.1.2 * t.2.2.2 + e.2.2.2) := h
  rw [he.1, he.2.1, he.2.2.1] at h
  have h2 := Int.ofNat_le.mpr h
  simp only [Int.natCast_add, Int.natCast_mul] at h2
  rw [t1, t2, t3, t4] at h2
  unfold pM1 pM2 pM4 pTn at h2
  rw [ha.1, hb.1, hc.1] at h2
  simp only [Int.natCast_add, Int.natCast_mul] at h2
  rw [det_e]
  generalize (a.1.2 : Int) = xa at *
  generalize (a.2.1.1 : Int) = ya at *
  generalize (b.1.2 : Int) = xb at *
  generalize (b.2.1.1 : Int) = yb at *
  generalize (c.1.2 : Int) = xc at *
  generalize (c.2.1.1 : Int) = yc at *
  generalize (e.1.2 : Int) = xe at *
  generalize (e.2.1.1 : Int) = ye at *
  exact lin_k h2
-- the numbers made
noncomputable def mkT (p q : Nat) (a b c : PT) (k : TR → Bool) : Bool :=
  nF a.1.2 fun xa => nF a.2.1.1 fun ya => nF a.2.1.2 fun za => nF b.1.2 fun xb => nF b.2.1.1 fun yb => nF b.2.1.2 fun zb => nF c.1.2 fun xc => nF c.2.1.1 fun yc => nF c.2.1.2 fun zc =>
  nF (Nat.add (Nat.add (Nat.mul xa yb) (Nat.mul xb yc)) (Nat.mul xc ya)) fun tp => nF (Nat.add (Nat.add (Nat.mul ya xb) (Nat.mul yb xc)) (Nat.mul yc xa)) fun tn => bR (Nat.ble (Nat.succ tn) tp) (
  nF (Nat.add 1099511627776 (Nat.add (Nat.add (Nat.mul ya zb) (Nat.mul za yc)) (Nat.mul yb zc))) fun p1 => nF (Nat.add (Nat.add (Nat.mul ya zc) (Nat.mul za yb)) (Nat.mul yc zb)) fun n1 => bR (Nat.ble n1 p1) (
  nF (Nat.add 1099511627776 (Nat.add (Nat.add (Nat.mul xa zb) (Nat.mul za xc)) (Nat.mul xb zc))) fun p2 => nF (Nat.add (Nat.add (Nat.mul xa zc) (Nat.mul za xb)) (Nat.mul xc zb)) fun n2 => bR (Nat.ble n2 p2) (
  nF (Nat.add 1125899906842624 (Nat.add (Nat.add (Nat.mul xa (Nat.mul yb zc)) (Nat.mul ya (Nat.mul zb xc))) (Nat.mul za (Nat.mul xb yc)))) fun p4 => nF (Nat.add (Nat.add (Nat.mul xa (Nat.mul zb yc)) (Nat.mul ya (Nat.mul xb zc))) (Nat.mul za (Nat.mul yb xc))) fun n4 => bR (Nat.ble n4 p4) (
  nF (Nat.sub p1 n1) fun m1 => nF (Nat.sub p2 n2) fun m2 => nF (Nat.sub p4 n4) fun m4 => nF (Nat.sub tp tn) fun t => k ((p, q, c.1.1), ((m1, m2), (m4, t)))) false) false) false) false
theorem mkT_ok {p q : Nat} {a b c : PT} {k : TR → Bool} (h : mkT p q a b c k = true) : ∃ t : TR, t.1 = (p, q, c.1.1) ∧ k t = true ∧ trI a b c t ∧ 0 < pTn a b c := by
  unfold mkT at h
  simp only [nF_e] at h
  obtain ⟨h1, h⟩ := bR_and h
  obtain ⟨h2, h⟩ := bR_and h
  obtain ⟨h3, h⟩ := bR_and h
  obtain ⟨h4, h⟩ := bR_and h
  refine ⟨_, rfl, h, ⟨⟨?_, ?_⟩, ?_, ?_⟩, ?_⟩
  · have g := Nat.le_of_ble_eq_true h2
    have e := Int.ofNat_sub g
    dsimp only
    refine e.trans ?_
    unfold pM1
    show (((1099511627776 + (a.2.1.1 * b.2.1.2 + a.2.1.2 * c.2.1.1 + b.2.1.1 * c.2.1.2) : Nat) : Int)) - ((a.2.1.1 * c.2.1.2 + a.2.1.2 * b.2.1.1 + c.2.1.1 * b.2.1.2 : Nat) : Int) = _
    simp only [Int.natCast_add, Int.natCast_mul]
    omega
  · have g := Nat.le_of_ble_eq_true h3
    have e := Int.ofNat_sub g
    dsimp only
    refine e.trans ?_
    unfold pM2
    show (((1099511627776 + (a.1.2 * b.2.1.2 + a.2.1.2 * c.1.2 + b.1.2 * c.2.1.2) : Nat) : Int)) - ((a.1.2 * c.2.1.2 + a.2.1.2 * b.1.2 + c.1.2 * b.2.1.2 : Nat) : Int) = _
    simp only [Int.natCast_add, Int.natCast_mul]
    omega
  · have g := Nat.le_of_ble_eq_true h4
    have e := Int.ofNat_sub g
    dsimp only
    refine e.trans ?_
    unfold pM4
    show (((1125899906842624 + (a.1.2 * (b.2.1.1 * c.2.1.2) + a.2.1.1 * (b.2.1.2 * c.1.2) + a.2.1.2 * (b.1.2 * c.2.1.1)) : Nat) : Int)) - ((a.1.2 * (b.2.1.2 * c.2.1.1) + a.2.1.1 * (b.1.2 * c.2.1.2) + a.2.1.2 * (b.2.1.1 * c.1.2) : Nat) : Int) = _
    simp only [Int.natCast_add, Int.natCast_mul]
    omega
  · have g := Nat.le_of_ble_eq_true h1
    have e := Int.ofNat_sub (Nat.le_of_succ_le g)
    dsimp only
    refine e.trans ?_
    unfold pTn
    show ((a.1.2 * b.2.1.1 + b.1.2 * c.2.1.1 + c.1.2 * a.2.1.1 : Nat) : Int) - ((a.2.1.1 * b.1.2 + b.2.1.1 * c.1.2 + c.2.1.1 * a.1.2 : Nat) : Int) = _
    simp only [Int.natCast_add, Int.natCast_mul]
  · have g := Nat.le_of_ble_eq_true h1
    have g : (a.2.1.1 * b.1.2 + b.2.1.1 * c.1.2 + c.2.1.1 * a.1.2) + 1 ≤ a.1.2 * b.2.1.1 + b.1.2 * c.2.1.1 + c.1.2 * a.2.1.1 := g
    have g2 := Int.ofNat_le.mpr g
    simp only [Int.natCast_add, Int.natCast_mul] at g2
    unfold pTn
    omega
-- ties
noncomputable def tstb (x y : Nat → Int) (p q c r : Nat) : Bool := decide (tI x y p q r ≤ 0) || ((Nat.ble c r || beI x y p q r c) && (Nat.ble r c || !(beI x y p q c r)))
theorem tstb_ok {x y : Nat → Int} {p q c r : Nat} (h : tstb x y p q c r = true) (hT : 0 < tI x y p q r) : tst x y p q c r := by
  unfold tstb at h
  rw [decide_eq_false (by omega), Bool.false_or, Bool.and_eq_true, Bool.or_eq_true, Bool.or_eq_true] at h
  refine ⟨fun hl => ?_, fun hl => ?_⟩
  · rcases h.1 with g | g
    · have := Nat.le_of_ble_eq_true g
      omega
    · exact g
  · rcases h.2 with g | g
    · have := Nat.le_of_ble_eq_true g
      omega
    · rw [Bool.not_eq_true'] at g
      exact g
noncomputable def oRb (x y : Nat → Int) (t : Tri) (r : Nat) : Bool := tstb x y t.1 t.2.1 t.2.2 r && (tstb x y t.2.1 t.2.2 t.1 r && tstb x y t.2.2 t.1 t.2.1 r)
theorem oRb_ok {x y : Nat → Int} {t : Tri} {r : Nat} (h : oRb x y t r = true) : oR x y t r := by
  unfold oRb at h
  rw [Bool.and_eq_true, Bool.and_eq_true] at h
  exact ⟨tstb_ok h.1, tstb_ok h.2.1, tstb_ok h.2.2⟩
/-- a triangle against a point that isn't a corner of it -/
noncomputable def chk1 (P : List PT) (t : TR) (e : PT) : Bool := bR (out1 t e) true (bR (Nat.beq (oL t e) (oG t e)) (oRb (xP P) (yP P) t.1 e.1.1) false)
