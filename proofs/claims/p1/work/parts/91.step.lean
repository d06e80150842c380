/-! THE CHECK'S STEP: a point more, the mesh mended; and what it shows. By hand. -/
theorem tI_cg {x y x' y' : Nat → Int} {p q r : Nat} (hp : x p = x' p ∧ y p = y' p) (hq : x q = x' q ∧ y q = y' q) (hr : x r = x' r ∧ y r = y' r) : tI x y p q r = tI x' y' p q r := by
  simp only [tI, hp.1, hp.2, hq.1, hq.2, hr.1, hr.2]
theorem iI_cg {x y x' y' : Nat → Int} {p q r s : Nat} (hp : x p = x' p ∧ y p = y' p) (hq : x q = x' q ∧ y q = y' q) (hr : x r = x' r ∧ y r = y' r) (hs : x s = x' s ∧ y s = y' s) : iI x y p q r s = iI x' y' p q r s := by
  simp only [iI, hp.1, hp.2, hq.1, hq.2, hr.1, hr.2, hs.1, hs.2]
section
variable {x y x' y' : Nat → Int} {N : Nat}
theorem ahI_cg {a b : Nat} (S : ∀ k, k < N → x k = x' k ∧ y k = y' k) (ha : a < N) (hb : b < N) : ahI x y a b = ahI x' y' a b := by
  have ha := S a ha
  have hb := S b hb
  simp only [ahI, ha.1, ha.2, hb.1, hb.2]
theorem fsI_cg {a b : Nat} (S : ∀ k, k < N → x k = x' k ∧ y k = y' k) (ha : a < N) (hb : b < N) : fsI x y a b = fsI x' y' a b := by
  unfold fsI
  rw [ahI_cg S hb ha]
theorem beI_cg {p q r s : Nat} (S : ∀ k, k < N → x k = x' k ∧ y k = y' k) (hp : p < N) (hq : q < N) (hr : r < N) (hs : s < N) : beI x y p q r s = beI x' y' p q r s := by
  unfold beI tieI
  rw [iI_cg (S p hp) (S q hq) (S r hr) (S s hs), fsI_cg S (fsI_lt (fsI_lt hp hq) hr) hs, fsI_cg S (fsI_lt hp hq) hr, fsI_cg S hp hq, tI_cg (S p hp) (S s hs) (S r hr), tI_cg (S q hq) (S s hs) (S r hr)]
theorem tst_cg {p q c r : Nat} (S : ∀ k, k < N → x k = x' k ∧ y k = y' k) (hp : p < N) (hq : q < N) (hc : c < N) (hr : r < N) (h : tst x y p q c r) : tst x' y' p q c r := by
  unfold tst at *
  rw [← beI_cg S hp hq hr hc, ← beI_cg S hp hq hc hr]
  exact h
theorem oR_cg {t : Tri} {r : Nat} (S : ∀ k, k < N → x k = x' k ∧ y k = y' k) (h1 : t.1 < N) (h2 : t.2.1 < N) (h3 : t.2.2 < N) (hr : r < N) (h : oR x y t r) : oR x' y' t r := by
  unfold oR at *
  rw [← tI_cg (S _ h1) (S _ h2) (S _ hr), ← tI_cg (S _ h2) (S _ h3) (S _ hr), ← tI_cg (S _ h3) (S _ h1) (S _ hr)]
  exact ⟨fun g => tst_cg S h1 h2 h3 hr (h.1 g), fun g => tst_cg S h2 h3 h1 hr (h.2.1 g), fun g => tst_cg S h3 h1 h2 hr (h.2.2 g)⟩
theorem tI_pp {p q : Nat} : tI x y p q p = 0 ∧ tI x y p q q = 0 := by
  unfold tI
  constructor
  · grind
  · grind
theorem okM_view {L : List Tri} {t : Tri} {p q : Nat} (h : okM x y N L) (ht : t ∈ L) (he : hasE t p q = true) : ∃ c, isRot (p, q, c) t ∧ p < N ∧ q < N ∧ c < N ∧ 0 < tI x y p q c ∧ (∀ r, r < N → r ≠ p → r ≠ q → r ≠ c → 0 < tI x y p q r → tst x y p q c r) := by
  obtain ⟨h1, h2, h3, h4⟩ := h.1 t ht
  have hR := h.2.1 t ht
  obtain ⟨a, b, c⟩ := t
  dsimp only at h1 h2 h3 h4 hR
  rcases hasE_of he with ⟨rfl, rfl⟩ | ⟨rfl, rfl⟩ | ⟨rfl, rfl⟩
  · exact ⟨c, .inl rfl, by dsimp only; omega, by dsimp only; omega, h3, h4, fun r g1 g2 g3 g4 g5 => (hR r g1 g2 g3 g4).1 g5⟩
  · exact ⟨a, .inr (.inl rfl), by dsimp only; omega, h3, by omega, by dsimp only; rw [tI_c]; exact h4, fun r g1 g2 g3 g4 g5 => (hR r g1 g4 g2 g3).2.1 g5⟩
  · exact ⟨b, .inr (.inr rfl), h3, by dsimp only; omega, by omega, by dsimp only; rw [tI_c, tI_c]; exact h4, fun r g1 g2 g3 g4 g5 => (hR r g1 g3 g4 g2).2.2 g5⟩
theorem okM_uniq {L : List Tri} {t u : Tri} {p q : Nat} (h : okM x y N L) (ht : t ∈ L) (hu : u ∈ L) (e1 : hasE t p q = true) (e2 : hasE u p q = true) : t = u := by
  obtain ⟨c, r1, _, _, c1, T1, H1⟩ := okM_view h ht e1
  obtain ⟨d, r2, _, _, d1, T2, H2⟩ := okM_view h hu e2
  have hz : ∀ r, 0 < tI x y p q r → r ≠ p ∧ r ≠ q := fun r hr => ⟨fun e => by
    rw [e, tI_pp.1] at hr
    omega, fun e => by
    rw [e, tI_pp.2] at hr
    omega⟩
  have hcd : c = d := by
    rcases Nat.lt_trichotomy c d with hl | hl | hl
    · have a1 := (H1 d d1 (hz d T2).1 (hz d T2).2 (by omega) T2).2 hl
      have a2 := (H2 c c1 (hz c T1).1 (hz c T1).2 (by omega) T1).1 hl
      rw [a1] at a2
      cases a2
    · exact hl
    · have a1 := (H2 c c1 (hz c T1).1 (hz c T1).2 (by omega) T1).2 hl
      have a2 := (H1 d d1 (hz d T2).1 (hz d T2).2 (by omega) T2).1 hl
      rw [a1] at a2
      cases a2
  subst hcd
  obtain ⟨k1, k2, _⟩ := h.1 t ht
  obtain ⟨k3, k4, _⟩ := h.1 u hu
  obtain ⟨a, b, e⟩ := t
  obtain ⟨a', b', e'⟩ := u
  unfold isRot rot1 at r1 r2
  simp only [Prod.mk.injEq] at *
  omega
end
-- pieces of the step
def nP (i x y : Nat) : PT := ((i, x), ((y, x * x + y * y), (1099511627776 * x, 1125899906842624 + 1099511627776 * y)))
noncomputable def mkP (i x y : Nat) (k : PT → Bool) : Bool := nF (Nat.add (Nat.mul x x) (Nat.mul y y)) fun z => nF (Nat.mul 1099511627776 x) fun kx => nF (Nat.add 1125899906842624 (Nat.mul 1099511627776 y)) fun ky => k ((i, x), ((y, z), (kx, ky)))
theorem mkP_e {i x y : Nat} {k : PT → Bool} : mkP i x y k = k (nP i x y) := by
  unfold mkP
  simp only [nF_e]
  rfl
noncomputable def edg (R : List TR) : (List (Nat × Nat) → Bool) → Bool := List.rec (motive := fun _ => (List (Nat × Nat) → Bool) → Bool) (fun k => k []) (fun t _ ih k => nF t.1.1 fun p => nF t.1.2.1 fun q => nF t.1.2.2 fun c => ih (fun E => k ((p, q) :: (q, c) :: (c, p) :: E))) R
def edL : List TR → List (Nat × Nat)
  | [] => []
  | t :: R => (t.1.1, t.1.2.1) :: (t.1.2.1, t.1.2.2) :: (t.1.2.2, t.1.1) :: edL R
theorem edg_e : ∀ {R : List TR} {k : List (Nat × Nat) → Bool}, edg R k = k (edL R) := by
  intro R
  induction R with
  | nil => intro k; rfl
  | cons t R ih =>
    intro k
    show (nF t.1.1 fun p => nF t.1.2.1 fun q => nF t.1.2.2 fun c => edg R (fun E => k ((p, q) :: (q, c) :: (c, p) :: E))) = _
    simp only [nF_e]
    rw [ih]
    rfl
theorem edL_mem {a b : Nat} : ∀ {R : List TR}, (a, b) ∈ edL R ↔ ∃ t, t ∈ R ∧ hasE t.1 a b = true := by
  intro R
  induction R with
  | nil => exact ⟨fun h => absurd h List.not_mem_nil, fun ⟨t, h, _⟩ => absurd h List.not_mem_nil⟩
  | cons u R ih =>
    unfold edL
    rw [List.mem_cons, List.mem_cons, List.mem_cons, ih]
    constructor
    · rintro (h | h | h | ⟨t, h1, h2⟩)
      · simp only [Prod.mk.injEq] at h
        exact ⟨u, List.mem_cons_self, hasE_mk (.inl ⟨h.1.symm, h.2.symm⟩)⟩
      · simp only [Prod.mk.injEq] at h
        exact ⟨u, List.mem_cons_self, hasE_mk (.inr (.inl ⟨h.1.symm, h.2.symm⟩))⟩
      · simp only [Prod.mk.injEq] at h
        exact ⟨u, List.mem_cons_self, hasE_mk (.inr (.inr ⟨h.1.symm, h.2.symm⟩))⟩
      · exact ⟨t, List.mem_cons_of_mem _ h1, h2⟩
    · rintro ⟨t, h1, h2⟩
      rcases List.mem_cons.mp h1 with rfl | h1
      · rcases hasE_of h2 with ⟨e1, e2⟩ | ⟨e1, e2⟩ | ⟨e1, e2⟩
        · exact .inl (by rw [e1, e2])
        · exact .inr (.inl (by rw [e1, e2]))
        · exact .inr (.inr (.inl (by rw [e1, e2])))
      · exact .inr (.inr (.inr ⟨t, h1, h2⟩))
noncomputable def notR (E : List (Nat × Nat)) (e : Nat × Nat) : Bool := bR (lAny (fun e' => bR (Nat.beq e'.1 e.2) (Nat.beq e'.2 e.1) false) E) false true
theorem notR_t {E : List (Nat × Nat)} {a b : Nat} (h : notR E (a, b) = true) : (b, a) ∉ E := by
  intro hm
  unfold notR at h
  cases e : lAny (fun e' : Nat × Nat => bR (Nat.beq e'.1 b) (Nat.beq e'.2 a) false) E with
  | true => rw [e] at h; cases h
  | false =>
    have := lAny_no e (b, a) hm
    dsimp only at this
    rw [Nat.beq_refl, Nat.beq_refl] at this
    cases this
theorem notR_f {E : List (Nat × Nat)} {a b : Nat} (h : (b, a) ∉ E) : notR E (a, b) = true := by
  unfold notR
  cases e : lAny (fun e' : Nat × Nat => bR (Nat.beq e'.1 b) (Nat.beq e'.2 a) false) E with
  | false => rfl
  | true =>
    exfalso
    obtain ⟨⟨c, d⟩, h1, h2⟩ := lAny_ok e
    obtain ⟨h3, h4⟩ := bR_and h2
    have h3 := Nat.eq_of_beq_eq_true h3
    have h4 := Nat.eq_of_beq_eq_true h4
    dsimp only at h3 h4
    subst h3
    subst h4
    exact h h1
noncomputable def lMk (P : List PT) (e : PT) (B : List (Nat × Nat)) : (List TR → Bool) → Bool := List.rec (motive := fun _ => (List TR → Bool) → Bool) (fun c => c []) (fun ab _ ih c => lkC P ab.1 (fun a => lkC P ab.2 (fun b => mkT ab.1 ab.2 a b e (fun t => ih (fun r => c (t :: r)))))) B
theorem lMk_ok {P : List PT} {e : PT} : ∀ {B : List (Nat × Nat)} {c : List TR → Bool}, lMk P e B c = true → ∃ news, c news = true ∧ (∀ ab, ab ∈ B → ∃ t, t ∈ news ∧ t.1 = (ab.1, ab.2, e.1.1)) ∧ (∀ t, t ∈ news → ∃ ab, ab ∈ B ∧ t.1 = (ab.1, ab.2, e.1.1) ∧ trI (lk P ab.1) (lk P ab.2) e t ∧ 0 < pTn (lk P ab.1) (lk P ab.2) e) := by
  intro B
  induction B with
  | nil => intro c h; exact ⟨[], h, fun ab h => absurd h List.not_mem_nil, fun t h => absurd h List.not_mem_nil⟩
  | cons ab B ih =>
    intro c h
    have h : lkC P ab.1 (fun a => lkC P ab.2 (fun b => mkT ab.1 ab.2 a b e (fun t => lMk P e B (fun r => c (t :: r))))) = true := h
    rw [lkC_e, lkC_e] at h
    obtain ⟨t, t1, h, t2, t3⟩ := mkT_ok h
    obtain ⟨news, n1, n2, n3⟩ := ih h
    refine ⟨t :: news, n1, fun cd hcd => ?_, fun u hu => ?_⟩
    · rcases List.mem_cons.mp hcd with rfl | hcd
      · exact ⟨t, List.mem_cons_self, t1⟩
      · obtain ⟨u, u1, u2⟩ := n2 cd hcd
        exact ⟨u, List.mem_cons_of_mem _ u1, u2⟩
    · rcases List.mem_cons.mp hu with rfl | hu
      · exact ⟨ab, List.mem_cons_self, t1, t2, t3⟩
      · obtain ⟨cd, c1, c2⟩ := n3 u hu
        exact ⟨cd, List.mem_cons_of_mem _ c1, c2⟩
noncomputable def lApp (A B : List TR) : (List TR → Bool) → Bool := List.rec (motive := fun _ => (List TR → Bool) → Bool) (fun c => c B) (fun a _ ih c => ih (fun r => c (a :: r))) A
theorem lApp_e {B : List TR} : ∀ {A : List TR} {c : List TR → Bool}, lApp A B c = c (A ++ B) := by
  intro A
  induction A with
  | nil => intro c; rfl
  | cons a A ih =>
    intro c
    show lApp A B (fun r => c (a :: r)) = _
    rw [ih]
    rfl
noncomputable def lLen (L : List TR) : Nat := List.rec (motive := fun _ => Nat) 0 (fun _ _ ih => Nat.succ ih) L
theorem lLen_e : ∀ {L : List TR}, lLen L = L.length := by
  intro L
  induction L with
  | nil => rfl
  | cons a L ih =>
    show Nat.succ (lLen L) = _
    rw [ih]
    rfl
noncomputable def chk2 (P P' : List PT) (news : List TR) : Bool := lAll (fun t => lAll (fun e => bR (out1 t e) true (bR (Nat.beq e.1.1 t.1.1) true (bR (Nat.beq e.1.1 t.1.2.1) true (chk1 P' t e)))) P) news
noncomputable def chk3 (B : List (Nat × Nat)) : Bool := lAll (fun ab => bR (lAny (fun cd => Nat.beq cd.1 ab.2) B) (lAny (fun cd => Nat.beq cd.2 ab.1) B) false) B
-- what holds
def pInv (P : List PT) (N : Nat) : Prop := (∀ k, k < N → (lk P k).1.1 = k ∧ wfP (lk P k) ∧ lk P k ∈ P) ∧ (∀ e, e ∈ P → e.1.1 < N ∧ lk P e.1.1 = e)
def tInv (P : List PT) (N : Nat) (t : TR) : Prop := t.1.1 < N ∧ t.1.2.1 < N ∧ t.1.2.2 < N ∧ trI (lk P t.1.1) (lk P t.1.2.1) (lk P t.1.2.2) t
def mInv (P : List PT) (D : List TR) (N : Nat) : Prop := pInv P N ∧ 4 ≤ N ∧ Cn (xP P) (yP P) ∧ (∀ t, t ∈ D → tInv P N t) ∧ okM (xP P) (yP P) N (D.map (fun t => t.1)) ∧ D.length ≤ 80
theorem trI_uniq {a b c : PT} {t u : TR} (h1 : trI a b c t) (h2 : trI a b c u) (e : t.1 = u.1) : t = u := by
  obtain ⟨⟨a1, a2⟩, a3, a4⟩ := h1
  obtain ⟨⟨b1, b2⟩, b3, b4⟩ := h2
  obtain ⟨tt, ⟨t1, t2⟩, t3, t4⟩ := t
  obtain ⟨uu, ⟨u1, u2⟩, u3, u4⟩ := u
  dsimp only at *
  subst e
  have e1 : t1 = u1 := by omega
  have e2 : t2 = u2 := by omega
  have e3 : t3 = u3 := by omega
  have e4 : t4 = u4 := by omega
  rw [e1, e2, e3, e4]
theorem lk_new {P : List PT} {N x y k : Nat} (hk : k < N) : lk (nP N x y :: P) k = lk P k := by
  rw [lk_cons]
  have : Nat.beq (nP N x y).1.1 k = false := by
    show Nat.beq N k = false
    cases e : Nat.beq N k with
    | false => rfl
    | true =>
      have := Nat.eq_of_beq_eq_true e
      omega
  rw [this]
  rfl
theorem lk_top {P : List PT} {N x y : Nat} : lk (nP N x y :: P) N = nP N x y := by
  rw [lk_cons]
  show bR (Nat.beq N N) _ _ = _
  rw [Nat.beq_refl]
  rfl
theorem wf_nP {N x y : Nat} (hx : x ≤ 2000) (hy : y ≤ 2000) : wfP (nP N x y) := ⟨rfl, rfl, rfl, hx, hy⟩
/-- a test that was passed -/
theorem chk1_ok {P : List PT} {N : Nat} {t : TR} {r : Nat} (hP : pInv P N) (ht : tInv P N t) (hr : r < N) (h : out1 t (lk P r) = true ∨ chk1 P t (lk P r) = true) : oR (xP P) (yP P) t.1 r := by
  obtain ⟨h1, h2, h3, h4⟩ := ht
  have ho : out1 t (lk P r) = true → oR (xP P) (yP P) t.1 r := fun g => oR_of (out1_ok (hP.1 _ h1).2.1 (hP.1 _ h2).2.1 (hP.1 _ h3).2.1 (hP.1 _ hr).2.1 h4 g)
  rcases h with g | g
  · exact ho g
  · unfold chk1 at g
    rcases bR_or g with g | g
    · exact ho g
    · have := oRb_ok (bR_and g).2
      rw [(hP.1 _ hr).1] at this
      exact this
theorem pInv_new {P : List PT} {N x y : Nat} (h : pInv P N) (hx : x ≤ 2000) (hy : y ≤ 2000) : pInv (nP N x y :: P) (N + 1) := by
  refine ⟨fun k hk => ?_, fun e he => ?_⟩
  · by_cases hkN : k = N
    · subst hkN
      rw [lk_top]
      exact ⟨rfl, wf_nP hx hy, List.mem_cons_self⟩
    · rw [lk_new (by omega)]
      obtain ⟨a, b, c⟩ := h.1 k (by omega)
      exact ⟨a, b, List.mem_cons_of_mem _ c⟩
  · rcases List.mem_cons.mp he with rfl | he
    · exact ⟨Nat.lt_succ_self N, lk_top⟩
    · obtain ⟨a, b⟩ := h.2 e he
      exact ⟨by omega, by rw [lk_new a]; exact b⟩
theorem xP_new {P : List PT} {N x y k : Nat} (hk : k < N) : xP P k = xP (nP N x y :: P) k ∧ yP P k = yP (nP N x y :: P) k := by
  unfold xP yP
  rw [lk_new hk]
  exact ⟨rfl, rfl⟩
theorem side4n {x y : Nat → Int} (hc : Cn x y) {k c : Nat} (hk : k < 4) (h : 0 ≤ x c ∧ x c ≤ 2000 ∧ 0 ≤ y c ∧ y c ≤ 2000) : tI x y ((k + 1) % 4) k c ≤ 0 := by
  obtain ⟨⟨a1, a2⟩, ⟨a3, a4⟩, ⟨a5, a6⟩, ⟨a7, a8⟩⟩ := hc
  unfold tI
  match k, hk with
  | 0, _ =>
    show (x 0 - x 1) * (y c - y 1) - (y 0 - y 1) * (x c - x 1) ≤ 0
    simp only [a1, a2, a3, a4]
    omega
  | 1, _ =>
    show (x 1 - x 2) * (y c - y 2) - (y 1 - y 2) * (x c - x 2) ≤ 0
    simp only [a5, a6, a3, a4]
    omega
  | 2, _ =>
    show (x 2 - x 3) * (y c - y 3) - (y 2 - y 3) * (x c - x 3) ≤ 0
    simp only [a5, a6, a7, a8]
    omega
  | 3, _ =>
    show (x 3 - x 0) * (y c - y 0) - (y 3 - y 0) * (x c - x 0) ≤ 0
    simp only [a1, a2, a7, a8]
    omega
theorem mend {P : List PT} {D news : List TR} {N x y : Nat} (I : mInv P D N) (hx : x ≤ 2000) (hy : y ≤ 2000) {B : List (Nat × Nat)} (hB : B = (edL (D.filter (fun t => !(chk1 (nP N x y :: P) t (nP N x y))))).filter (notR (edL (D.filter (fun t => !(chk1 (nP N x y :: P) t (nP N x y))))))) (n2 : ∀ ab, ab ∈ B → ∃ t, t ∈ news ∧ t.1 = (ab.1, ab.2, N)) (n3 : ∀ t, t ∈ news → ∃ ab, ab ∈ B ∧ t.1 = (ab.1, ab.2, N) ∧ trI (lk P ab.1) (lk P ab.2) (nP N x y) t ∧ 0 < pTn (lk P ab.1) (lk P ab.2) (nP N x y)) (c2 : chk2 P (nP N x y :: P) news = true) (c3 : chk3 B = true) (h80 : (news ++ D.filter (fun t => chk1 (nP N x y :: P) t (nP N x y))).length ≤ 80) : mInv (nP N x y :: P) (news ++ D.filter (fun t => chk1 (nP N x y :: P) t (nP N x y))) (N + 1) := by
  obtain ⟨hP, h4, hC, hT, hM, _⟩ := I
  have hP' := pInv_new hP hx hy
  have S : ∀ k, k < N → xP P k = xP (nP N x y :: P) k ∧ yP P k = yP (nP N x y :: P) k := fun k hk => xP_new hk
  have hC' : Cn (xP (nP N x y :: P)) (yP (nP N x y :: P)) := by
    obtain ⟨⟨a1, a2⟩, ⟨a3, a4⟩, ⟨a5, a6⟩, ⟨a7, a8⟩⟩ := hC
    rw [(S 0 (by omega)).1] at a1
    rw [(S 0 (by omega)).2] at a2
    rw [(S 1 (by omega)).1] at a3
    rw [(S 1 (by omega)).2] at a4
    rw [(S 2 (by omega)).1] at a5
    rw [(S 2 (by omega)).2] at a6
    rw [(S 3 (by omega)).1] at a7
    rw [(S 3 (by omega)).2] at a8
    exact ⟨⟨a1, a2⟩, ⟨a3, a4⟩, ⟨a5, a6⟩, ⟨a7, a8⟩⟩
  -- an edge of the hole
  have hBm : ∀ ab, ab ∈ B → ab.1 < N ∧ ab.2 < N ∧ (∃ t, t ∈ D ∧ chk1 (nP N x y :: P) t (nP N x y) = false ∧ hasE t.1 ab.1 ab.2 = true) ∧ ¬ (∃ t, t ∈ D ∧ chk1 (nP N x y :: P) t (nP N x y) = false ∧ hasE t.1 ab.2 ab.1 = true) := by
    rintro ⟨a, b⟩ hab
    rw [hB, List.mem_filter] at hab
    obtain ⟨m1, m2⟩ := hab
    have m2 := notR_t m2
    obtain ⟨t, t1, t2⟩ := edL_mem.mp m1
    rw [List.mem_filter, Bool.not_eq_true'] at t1
    obtain ⟨q1, q2, q3, _⟩ := hT t t1.1
    have hab : a < N ∧ b < N := by
      rcases hasE_of t2 with ⟨rfl, rfl⟩ | ⟨rfl, rfl⟩ | ⟨rfl, rfl⟩
      · exact ⟨q1, q2⟩
      · exact ⟨q2, q3⟩
      · exact ⟨q3, q1⟩
    refine ⟨hab.1, hab.2, ⟨t, t1.1, t1.2, t2⟩, ?_⟩
    rintro ⟨u, u1, u2, u3⟩
    exact m2 (edL_mem.mpr ⟨u, List.mem_filter.mpr ⟨u1, by rw [u2]; rfl⟩, u3⟩)
  have hBi : ∀ a b, (∃ t, t ∈ D ∧ chk1 (nP N x y :: P) t (nP N x y) = false ∧ hasE t.1 a b = true) → ¬ (∃ t, t ∈ D ∧ chk1 (nP N x y :: P) t (nP N x y) = false ∧ hasE t.1 b a = true) → (a, b) ∈ B := by
    rintro a b ⟨t, t1, t2, t3⟩ hn
    rw [hB, List.mem_filter]
    refine ⟨edL_mem.mpr ⟨t, List.mem_filter.mpr ⟨t1, by rw [t2]; rfl⟩, t3⟩, notR_f (fun hm => ?_)⟩
    obtain ⟨u, u1, u2⟩ := edL_mem.mp hm
    rw [List.mem_filter, Bool.not_eq_true'] at u1
    exact hn ⟨u, u1.1, u1.2, u2⟩
  have hTn : ∀ t, t ∈ news → tInv (nP N x y :: P) (N + 1) t := by
    intro t ht
    obtain ⟨ab, a1, a2, a3, _⟩ := n3 t ht
    obtain ⟨b1, b2, _⟩ := hBm ab a1
    refine ⟨by rw [a2]; dsimp only; omega, by rw [a2]; dsimp only; omega, by rw [a2]; exact Nat.lt_succ_self N, ?_⟩
    rw [a2]
    dsimp only
    rw [lk_new b1, lk_new b2, lk_top]
    exact a3
  have hTk : ∀ t, t ∈ D → tInv (nP N x y :: P) (N + 1) t := by
    intro t ht
    obtain ⟨q1, q2, q3, q4⟩ := hT t ht
    exact ⟨by omega, by omega, by omega, by rw [lk_new q1, lk_new q2, lk_new q3]; exact q4⟩
  refine ⟨hP', by omega, hC', fun t ht => ?_, ⟨fun u hu => ?_, fun u hu r hr g1 g2 g3 => ?_, fun u p q hu he hb => ?_, fun k hk => ?_⟩, h80⟩
  · rcases List.mem_append.mp ht with h | h
    · exact hTn t h
    · exact hTk t (List.mem_filter.mp h).1
  · obtain ⟨t, ht, rfl⟩ := List.mem_map.mp hu
    rcases List.mem_append.mp ht with h | h
    · obtain ⟨ab, a1, a2, _, a4⟩ := n3 t h
      obtain ⟨b1, b2, _⟩ := hBm ab a1
      rw [a2]
      refine ⟨b1, b2, Nat.lt_succ_self N, ?_⟩
      have e : pTn (lk P ab.1) (lk P ab.2) (nP N x y) = tI (xP (nP N x y :: P)) (yP (nP N x y :: P)) ab.1 ab.2 N := by
        unfold pTn tI xP yP
        rw [lk_new b1, lk_new b2, lk_top]
        grind
      rw [← e]
      exact a4
    · have hD := (List.mem_filter.mp h).1
      obtain ⟨q1, q2, q3, _⟩ := hT t hD
      obtain ⟨w1, w2, w3, w4⟩ := hM.1 t.1 (List.mem_map.mpr ⟨t, hD, rfl⟩)
      rw [tI_cg (S _ q1) (S _ q2) (S _ q3)] at w4
      exact ⟨w1, w2, by omega, w4⟩
  · obtain ⟨t, ht, rfl⟩ := List.mem_map.mp hu
    rcases List.mem_append.mp ht with h | h
    · obtain ⟨ab, a1, a2, _⟩ := n3 t h
      have hrN : r < N := by
        rw [a2] at g3
        dsimp only at g3
        omega
      have := lAll_ok (lAll_ok c2 t h) (lk P r) (hP.1 r hrN).2.2
      have hi := (hP.1 r hrN).1
      refine chk1_ok hP' (hTn t h) (by omega) ?_
      rw [lk_new hrN]
      rcases bR_or this with e | e
      · exact .inl e
      rcases bR_or e with e | e
      · have := Nat.eq_of_beq_eq_true e
        exact absurd (hi.symm.trans this) g1
      rcases bR_or e with e | e
      · have := Nat.eq_of_beq_eq_true e
        exact absurd (hi.symm.trans this) g2
      · exact .inr e
    · obtain ⟨hD, hk⟩ := List.mem_filter.mp h
      obtain ⟨q1, q2, q3, _⟩ := hT t hD
      by_cases hrN : r = N
      · subst hrN
        refine chk1_ok hP' (hTk t hD) (by omega) (.inr ?_)
        rw [lk_top]
        exact hk
      · exact oR_cg S q1 q2 q3 (by omega) (hM.2.1 t.1 (List.mem_map.mpr ⟨t, hD, rfl⟩) r (by omega) g1 g2 g3)
  · obtain ⟨t, ht, rfl⟩ := List.mem_map.mp hu
    have inN : ∀ v : TR, v ∈ news → hasE v.1 q p = true → ∃ t', t' ∈ (news ++ D.filter (fun t => chk1 (nP N x y :: P) t (nP N x y))).map (fun t => t.1) ∧ hasE t' q p = true := fun v hv h => ⟨v.1, List.mem_map.mpr ⟨v, List.mem_append.mpr (.inl hv), rfl⟩, h⟩
    have inK : ∀ v : TR, v ∈ D → chk1 (nP N x y :: P) v (nP N x y) = true → hasE v.1 q p = true → ∃ t', t' ∈ (news ++ D.filter (fun t => chk1 (nP N x y :: P) t (nP N x y))).map (fun t => t.1) ∧ hasE t' q p = true := fun v hv hk h => ⟨v.1, List.mem_map.mpr ⟨v, List.mem_append.mpr (.inr (List.mem_filter.mpr ⟨hv, hk⟩)), rfl⟩, h⟩
    rcases List.mem_append.mp ht with h | h
    · obtain ⟨ab, a1, a2, _⟩ := n3 t h
      obtain ⟨b1, b2, ⟨w, w1, w2, w3⟩, b4⟩ := hBm ab a1
      rw [a2] at he
      rcases hasE_of he with ⟨rfl, rfl⟩ | ⟨rfl, rfl⟩ | ⟨rfl, rfl⟩
      · obtain ⟨v, v1, v2⟩ := hM.2.2.1 w.1 _ _ (List.mem_map.mpr ⟨w, w1, rfl⟩) w3 hb
        obtain ⟨v, v3, rfl⟩ := List.mem_map.mp v1
        cases hk : chk1 (nP N x y :: P) v (nP N x y) with
        | true => exact inK v v3 hk v2
        | false => exact absurd ⟨v, v3, hk, v2⟩ b4
      · obtain ⟨cd, d1, d2⟩ := lAny_ok (bR_and (lAll_ok c3 ab a1)).1
        have d2 := Nat.eq_of_beq_eq_true d2
        obtain ⟨v, v1, v2⟩ := n2 cd d1
        exact inN v v1 (by rw [v2]; exact hasE_mk (.inr (.inr ⟨rfl, d2⟩)))
      · obtain ⟨cd, d1, d2⟩ := lAny_ok (bR_and (lAll_ok c3 ab a1)).2
        have d2 := Nat.eq_of_beq_eq_true d2
        obtain ⟨v, v1, v2⟩ := n2 cd d1
        exact inN v v1 (by rw [v2]; exact hasE_mk (.inr (.inl ⟨d2, rfl⟩)))
    · obtain ⟨hD, hk⟩ := List.mem_filter.mp h
      have htm : t.1 ∈ D.map (fun t => t.1) := List.mem_map.mpr ⟨t, hD, rfl⟩
      obtain ⟨v, v1, v2⟩ := hM.2.2.1 t.1 p q htm he hb
      obtain ⟨v, v3, rfl⟩ := List.mem_map.mp v1
      cases hkv : chk1 (nP N x y :: P) v (nP N x y) with
      | true => exact inK v v3 hkv v2
      | false =>
        have hn : ¬ (∃ t, t ∈ D ∧ chk1 (nP N x y :: P) t (nP N x y) = false ∧ hasE t.1 p q = true) := by
          rintro ⟨u, u1, u2, u3⟩
          have e1 := okM_uniq hM htm (List.mem_map.mpr ⟨u, u1, rfl⟩) he u3
          obtain ⟨_, _, _, k4⟩ := hT t hD
          obtain ⟨_, _, _, k5⟩ := hT u u1
          rw [← e1] at k5
          have e2 := trI_uniq k4 k5 e1
          rw [e2, u2] at hk
          cases hk
        obtain ⟨w, w1, w2⟩ := n2 (q, p) (hBi q p ⟨v, v3, hkv, v2⟩ hn)
        exact inN w w1 (by rw [w2]; exact hasE_mk (.inl ⟨rfl, rfl⟩))
  · obtain ⟨v, v1, v2⟩ := hM.2.2.2 k hk
    obtain ⟨v, v3, rfl⟩ := List.mem_map.mp v1
    cases hkv : chk1 (nP N x y :: P) v (nP N x y) with
    | true => exact ⟨v.1, List.mem_map.mpr ⟨v, List.mem_append.mpr (.inr (List.mem_filter.mpr ⟨v3, hkv⟩)), rfl⟩, v2⟩
    | false =>
      have hn : ¬ (∃ t, t ∈ D ∧ chk1 (nP N x y :: P) t (nP N x y) = false ∧ hasE t.1 ((k + 1) % 4) k = true) := by
        rintro ⟨u, u1, u2, u3⟩
        obtain ⟨c, _, _, _, c1, c2, _⟩ := okM_view hM (List.mem_map.mpr ⟨u, u1, rfl⟩) u3
        have w := (hP.1 c c1).2.1
        have := side4n hC hk (c := c) (by
          unfold xP yP
          have := w.2.2.2.1
          have := w.2.2.2.2
          omega)
        omega
      obtain ⟨w, w1, w2⟩ := n2 (k, (k + 1) % 4) (hBi _ _ ⟨v, v3, hkv, v2⟩ hn)
      exact ⟨w.1, List.mem_map.mpr ⟨w, List.mem_append.mpr (.inl w1), rfl⟩, by rw [w2]; exact hasE_mk (.inl ⟨rfl, rfl⟩)⟩
