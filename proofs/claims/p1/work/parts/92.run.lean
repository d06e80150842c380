/-! THE CHECK FROM END TO END, beside the reference's drawing. By hand. -/
noncomputable def stp (m : Nat) (g : Nat × Nat) (P : List PT) (D : List TR) (N : Nat) (k : List PT → List TR → Nat → Bool) : Bool :=
  nF (Nat.succ (Nat.mul 2 m)) fun w => nF (Nat.sub (Nat.add (Nat.mod g.1 w) 1000) m) fun x => nF (Nat.sub (Nat.add (Nat.mod g.2 w) 1000) m) fun y =>
  bR (bR (Nat.ble 1 x) (bR (Nat.ble x 1999) (bR (Nat.ble 1 y) (Nat.ble y 1999) false) false) false) (
  bR (lAny (fun e => bR (Nat.beq e.1.2 x) (Nat.beq e.2.1.1 y) false) P) (k P D N) (
  mkP N x y fun e => lPar (fun t => chk1 (e :: P) t e) D fun kept rem => edg rem fun E => lFil (notR E) E fun B => lMk P e B fun news =>
  bR (chk2 P (e :: P) news) (bR (chk3 B) (lApp news kept fun D' => bR (Nat.ble (lLen D') 80) (nF (Nat.succ N) fun N' => k (e :: P) D' N') false) false) false)) false
def isAt (P : List PT) (N X Y : Nat) : Prop := ∃ j, j < N ∧ (lk P j).1.2 = X ∧ (lk P j).2.1.1 = Y
theorem stp_ok {m : Nat} {g : Nat × Nat} {P : List PT} {D : List TR} {N : Nat} {k : List PT → List TR → Nat → Bool} (h : stp m g P D N k = true) (I : mInv P D N) : ∃ X Y, X = g.1 % (2 * m + 1) + 1000 - m ∧ Y = g.2 % (2 * m + 1) + 1000 - m ∧ (1 ≤ X ∧ X ≤ 1999 ∧ 1 ≤ Y ∧ Y ≤ 1999) ∧ ((isAt P N X Y ∧ k P D N = true) ∨ (¬ isAt P N X Y ∧ ∃ D', mInv (nP N X Y :: P) D' (N + 1) ∧ k (nP N X Y :: P) D' (N + 1) = true)) := by
  unfold stp at h
  simp only [nF_e] at h
  have e1 : Nat.sub (Nat.add (Nat.mod g.1 (Nat.succ (Nat.mul 2 m))) 1000) m = g.1 % (2 * m + 1) + 1000 - m := rfl
  have e2 : Nat.sub (Nat.add (Nat.mod g.2 (Nat.succ (Nat.mul 2 m))) 1000) m = g.2 % (2 * m + 1) + 1000 - m := rfl
  rw [e1, e2] at h
  generalize g.1 % (2 * m + 1) + 1000 - m = X at h
  generalize g.2 % (2 * m + 1) + 1000 - m = Y at h
  obtain ⟨b, h⟩ := bR_and h
  obtain ⟨b1, b⟩ := bR_and b
  obtain ⟨b2, b⟩ := bR_and b
  obtain ⟨b3, b4⟩ := bR_and b
  have b1 := Nat.le_of_ble_eq_true b1
  have b2 := Nat.le_of_ble_eq_true b2
  have b3 := Nat.le_of_ble_eq_true b3
  have b4 := Nat.le_of_ble_eq_true b4
  refine ⟨X, Y, rfl, rfl, ⟨b1, b2, b3, b4⟩, ?_⟩
  cases e : lAny (fun e : PT => bR (Nat.beq e.1.2 X) (Nat.beq e.2.1.1 Y) false) P with
  | true =>
    rw [e] at h
    obtain ⟨a, a1, a2⟩ := lAny_ok e
    obtain ⟨a2, a3⟩ := bR_and a2
    obtain ⟨i1, i2⟩ := I.1.2 a a1
    exact .inl ⟨⟨a.1.1, i1, by rw [i2]; exact Nat.eq_of_beq_eq_true a2, by rw [i2]; exact Nat.eq_of_beq_eq_true a3⟩, h⟩
  | false =>
    rw [e] at h
    have hn : ¬ isAt P N X Y := by
      rintro ⟨j, j1, j2, j3⟩
      have := lAny_no e _ (I.1.1 j j1).2.2
      rw [j2, j3, Nat.beq_refl, Nat.beq_refl] at this
      cases this
    refine .inr ⟨hn, ?_⟩
    have h : mkP N X Y (fun e => lPar (fun t => chk1 (e :: P) t e) D fun kept rem => edg rem fun E => lFil (notR E) E fun B => lMk P e B fun news =>
      bR (chk2 P (e :: P) news) (bR (chk3 B) (lApp news kept fun D' => bR (Nat.ble (lLen D') 80) (k (e :: P) D' (Nat.succ N)) false) false) false) = true := h
    rw [mkP_e, lPar_e, edg_e, lFil_e] at h
    obtain ⟨news, h, n2, n3⟩ := lMk_ok h
    obtain ⟨c2, h⟩ := bR_and h
    obtain ⟨c3, h⟩ := bR_and h
    rw [lApp_e] at h
    obtain ⟨c4, h⟩ := bR_and h
    rw [lLen_e] at c4
    exact ⟨_, mend I (by omega) (by omega) rfl n2 n3 c2 c3 (Nat.le_of_ble_eq_true c4), h⟩
noncomputable def runM (m e : Nat) (G : List (Nat × Nat)) : List PT → List TR → Nat → Bool := List.rec (motive := fun _ => List PT → List TR → Nat → Bool) (fun _ _ N => Nat.beq N e) (fun g _ ih P D N => stp m g P D N ih) G
-- the row of the reference
def fInv (f : Nat → Int32) (P : List PT) (N g : Nat) : Prop := crd f N (xP P) (yP P) ∧ Bd f ∧ f 2 = nI g
theorem nI_ofInt {n : Nat} (h : n < 2 ^ 31) : nI n = Int32.ofInt (n : Int) := Int32.toInt_inj.mp (by rw [nI_toInt h, i32_small (by omega) (by omega)])
theorem dX_e {m g X : Nat} (hm : m ≤ 1000) (hX : X = dG g % (2 * m + 1) + 1000 - m) : dX m g = Int32.ofInt ((X : Int) - 1000) := by
  have hl : dG g % (2 * m + 1) < 2 * m + 1 := Nat.mod_lt _ (by omega)
  unfold dX
  rw [nI_ofInt (n := dG g % (2 * m + 1)) (by omega), nI_ofInt (n := m) (by omega), ← Int32.ofInt_sub]
  exact congrArg Int32.ofInt (by omega)
theorem ofInt_eq {a b : Nat} (ha : a ≤ 2000) (hb : b ≤ 2000) : Int32.ofInt ((a : Int) - 1000) = Int32.ofInt ((b : Int) - 1000) ↔ a = b := by
  rw [← Int32.toInt_inj, i32_small (by omega) (by omega), i32_small (by omega) (by omega)]
  omega
theorem dF2_ne {f : Nat → Int32} {g j : Nat} (h : j ≠ 2) : dF2 f g j = f j := by
  unfold dF2 upd
  rw [if_neg h, if_neg h]
theorem dF2_crd {f : Nat → Int32} {g N : Nat} {x y : Nat → Int} (H : crd f N x y) : crd (dF2 f g) N x y := by
  intro k hk
  obtain ⟨h1, h2⟩ := H k hk
  have e1 : isP (dF2 f g) k = isP f k := by
    unfold isP
    rw [dF2_ne (by omega)]
  have e2 : xF (dF2 f g) k = xF f k := by
    unfold xF
    rw [dF2_ne (by omega)]
  have e3 : yF (dF2 f g) k = yF f k := by
    unfold yF
    rw [dF2_ne (by omega)]
  rw [e1, e2, e3]
  exact ⟨h1, h2⟩
theorem dF2_Bd {f : Nat → Int32} {g : Nat} (H : Bd f) : Bd (dF2 f g) := by
  intro r s hr hs
  have e : fxF (dF2 f g) r s = fxF f r s := by
    unfold fxF
    rw [dF2_ne (by omega)]
  rw [e]
  exact H r s hr hs
theorem frG_n {f : Nat → Int32} {N : Nat} (H : ∀ k, k < 40 → isP f k = decide (k < N)) (hN : N < 40) : ∀ {m k : Nat}, k + m = 40 → k ≤ N → frG f m k = N := by
  intro m
  induction m with
  | zero => intro k h1 h2; omega
  | succ m ih =>
    intro k h1 h2
    by_cases h : k < N
    · rw [frG_t (by rw [H k (by omega)]; exact decide_eq_true h)]
      exact ih (by omega) (by omega)
    · rw [frG_f (by rw [H k (by omega)]; exact decide_eq_false h)]
      omega
theorem ptG_s {f : Nat → Int32} {x y : Int32} {m k : Nat} : ptG f x y (m + 1) k = bif isP f k && (decide (xF f k = x) && decide (yF f k = y)) then k else ptG f x y m (k + 1) := rfl
theorem ptG_none {f : Nat → Int32} {x y : Int32} (h : ∀ k, k < 40 → (isP f k && (decide (xF f k = x) && decide (yF f k = y))) = false) : ∀ {m k : Nat}, k + m = 40 → ptG f x y m k = 4294967295 := by
  intro m
  induction m with
  | zero => intro k _; rfl
  | succ m ih =>
    intro k hk
    rw [ptG_s, h k (by omega)]
    exact ih (by omega)
theorem ptG_hit {f : Nat → Int32} {x y : Int32} {j : Nat} (hj : j < 40) (h : (isP f j && (decide (xF f j = x) && decide (yF f j = y))) = true) : ∀ {m k : Nat}, k + m = 40 → k ≤ j → ptG f x y m k < 40 := by
  intro m
  induction m with
  | zero => intro k h1 h2; omega
  | succ m ih =>
    intro k hk hkj
    rw [ptG_s]
    cases e : (isP f k && (decide (xF f k = x) && decide (yF f k = y))) with
    | true => show k < 40; omega
    | false =>
      show ptG f x y m (k + 1) < 40
      have : k ≠ j := fun e2 => by
        rw [e2, h] at e
        cases e
      exact ih (by omega) (by omega)
theorem tRow_id {k p : Nat} {x y : Int32} {f : Nat → Int32} : ∀ {m q : Nat}, (∀ s, q ≤ s → s < q + m → (!(decide (fxF f p s = 0)) && betwF f p s x y) = false) → tRow k x y p m q f = f := by
  intro m
  induction m with
  | zero => intro q _; rfl
  | succ m ih =>
    intro q h
    rw [tR_s, tS_n (h q (Nat.le_refl _) (by omega))]
    exact ih (fun s h1 h2 => h s (by omega) (by omega))
theorem tAll_id {k : Nat} {x y : Int32} {f : Nat → Int32} (h : ∀ p s, p < 40 → s < p → (!(decide (fxF f p s = 0)) && betwF f p s x y) = false) : ∀ {m p : Nat}, p + m ≤ 40 → tAll k x y m p f = f := by
  intro m
  induction m with
  | zero => intro p _; rfl
  | succ m ih =>
    intro p hp
    rw [tA_s, tRow_id (fun s _ h2 => h p s (by omega) (by omega))]
    exact ih (by omega)
theorem side_nz {x y : Nat → Int} {p q c : Nat} (hc : Cn x y) (hb : bord4 p q = true) (h : 0 < x c ∧ x c < 2000 ∧ 0 < y c ∧ y c < 2000) : tI x y p q c ≠ 0 := by
  obtain ⟨⟨a1, a2⟩, ⟨a3, a4⟩, ⟨a5, a6⟩, ⟨a7, a8⟩⟩ := hc
  unfold tI
  rcases bord4_of hb with ⟨rfl, rfl⟩ | ⟨rfl, rfl⟩ | ⟨rfl, rfl⟩ | ⟨rfl, rfl⟩ | ⟨rfl, rfl⟩ | ⟨rfl, rfl⟩ | ⟨rfl, rfl⟩ | ⟨rfl, rfl⟩ <;> simp only [a1, a2, a3, a4, a5, a6, a7, a8] <;> omega
theorem laF_x {f : Nat → Int32} {N k : Nat} {a b : Int32} (hN : N < 40) : (isP (laF f N a b) k = (decide (k = N) || isP f k)) ∧ (xF (laF f N a b) k = if k = N then a else xF f k) ∧ (yF (laF f N a b) k = if k = N then b else yF f k) := by
  unfold isP xF yF laF upd
  by_cases h : k = N
  · subst h
    refine ⟨?_, ?_, ?_⟩
    · rw [if_neg (by omega), if_neg (by omega), if_pos (by omega), decide_eq_true (rfl : k = k), Bool.true_or]
      exact decide_eq_true rfl
    · rw [if_neg (by omega), if_pos (by omega), if_pos rfl]
    · rw [if_pos (by omega), if_pos rfl]
  · refine ⟨?_, ?_, ?_⟩
    · rw [if_neg (by omega), if_neg (by omega), if_neg (by omega), decide_eq_false h, Bool.false_or]
    · rw [if_neg (by omega), if_neg (by omega), if_neg (by omega), if_neg h]
    · rw [if_neg (by omega), if_neg (by omega), if_neg (by omega), if_neg h]
theorem laF_fx {f : Nat → Int32} {N r s : Nat} {a b : Int32} (hN : N < 40) : fxF (laF f N a b) r s = fxF f r s := by
  unfold fxF laF upd
  rw [if_neg (by omega), if_neg (by omega), if_neg (by omega)]
theorem f_new {f : Nat → Int32} {P : List PT} {D : List TR} {N X Y : Nat} (I : mInv P D N) (hN : N < 40) (H : crd f N (xP P) (yP P)) (hB : Bd f) (hx : 1 ≤ X ∧ X ≤ 1999 ∧ 1 ≤ Y ∧ Y ≤ 1999) : crd (tnF f N (Int32.ofInt ((X : Int) - 1000)) (Int32.ofInt ((Y : Int) - 1000))) (N + 1) (xP (nP N X Y :: P)) (yP (nP N X Y :: P)) ∧ Bd (tnF f N (Int32.ofInt ((X : Int) - 1000)) (Int32.ofInt ((Y : Int) - 1000))) := by
  obtain ⟨hP, h4, hC, _⟩ := I
  have S : ∀ k, k < N → xP P k = xP (nP N X Y :: P) k ∧ yP P k = yP (nP N X Y :: P) k := fun k hk => xP_new hk
  have tx : xP (nP N X Y :: P) N = (X : Int) := by
    unfold xP
    rw [lk_top]
    rfl
  have ty : yP (nP N X Y :: P) N = (Y : Int) := by
    unfold yP
    rw [lk_top]
    rfl
  have hC' : Cn (xP (nP N X Y :: P)) (yP (nP N X Y :: P)) := by
    obtain ⟨⟨a1, a2⟩, ⟨a3, a4⟩, ⟨a5, a6⟩, ⟨a7, a8⟩⟩ := hC
    rw [(S 0 (by omega)).1] at a1
    rw [(S 0 (by omega)).2] at a2
    rw [(S 1 (by omega)).1] at a3
    rw [(S 1 (by omega)).2] at a4
    rw [(S 2 (by omega)).1] at a5
    rw [(S 2 (by omega)).2] at a6
    rw [(S 3 (by omega)).1] at a7
    rw [(S 3 (by omega)).2] at a8
    exact ⟨⟨a1, a2⟩, ⟨a3, a4⟩, ⟨a5, a6⟩, ⟨a7, a8⟩⟩
  have c1 : crd (laF f N (Int32.ofInt ((X : Int) - 1000)) (Int32.ofInt ((Y : Int) - 1000))) (N + 1) (xP (nP N X Y :: P)) (yP (nP N X Y :: P)) := by
    intro k hk
    obtain ⟨l1, l2, l3⟩ := laF_x (f := f) (N := N) (k := k) (a := Int32.ofInt ((X : Int) - 1000)) (b := Int32.ofInt ((Y : Int) - 1000)) hN
    obtain ⟨h1, h2⟩ := H k hk
    refine ⟨?_, fun hk2 => ?_⟩
    · rw [l1, h1]
      by_cases h : k = N
      · rw [decide_eq_true h, Bool.true_or, decide_eq_true (by omega)]
      · rw [decide_eq_false h, Bool.false_or]
        exact decide_eq_decide.mpr (by omega)
    · rw [l2, l3]
      by_cases h : k = N
      · subst h
        rw [if_pos rfl, if_pos rfl, tx, ty]
        exact ⟨by omega, rfl, rfl⟩
      · rw [if_neg h, if_neg h, ← (S k (by omega)).1, ← (S k (by omega)).2]
        exact h2 (by omega)
  have c2 : Bd (laF f N (Int32.ofInt ((X : Int) - 1000)) (Int32.ofInt ((Y : Int) - 1000))) := by
    intro r s hr hs
    rw [laF_fx hN]
    exact hB r s hr hs
  have e : taF f N (Int32.ofInt ((X : Int) - 1000)) (Int32.ofInt ((Y : Int) - 1000)) = laF f N (Int32.ofInt ((X : Int) - 1000)) (Int32.ofInt ((Y : Int) - 1000)) := by
    refine tAll_id (fun p s hp hs => ?_) (by omega)
    rw [c2 p s hp (by omega)]
    cases hb : bord4 p s with
    | false =>
      rw [cond_false, decide_eq_true (show nI 0 = 0 from rfl)]
      rfl
    | true =>
      have hl := bord4_lt hb
      have hz : betwF (laF f N (Int32.ofInt ((X : Int) - 1000)) (Int32.ofInt ((Y : Int) - 1000))) p s (Int32.ofInt ((X : Int) - 1000)) (Int32.ofInt ((Y : Int) - 1000)) = false := by
        unfold betwF
        have e1 := turn_e c1 (by omega) (p := p) (q := s) (r := N) (by omega) (by omega) (by omega)
        have b1 := tI_b c1 (by omega) (p := p) (q := s) (r := N) (by omega) (by omega) (by omega)
        unfold turnF at e1
        rw [crd_x c1 (by omega) (Nat.lt_succ_self N), crd_y c1 (by omega) (Nat.lt_succ_self N), tx, ty] at e1
        have nz := side_nz hC' hb (c := N) (by rw [tx, ty]; omega)
        rw [e1, decide_eq_false (fun e2 => nz (by
          have e3 := congrArg Int32.toInt e2
          rw [i32_small (by omega) (by omega)] at e3
          exact e3)), Bool.false_and]
      rw [hz, Bool.and_false]
  unfold tnF
  rw [e]
  refine ⟨fun k hk => ?_, fun r s hr hs => ?_⟩
  · obtain ⟨h1, h2⟩ := c1 k hk
    have e1 : isP (upd (laF f N (Int32.ofInt ((X : Int) - 1000)) (Int32.ofInt ((Y : Int) - 1000))) (3 + 4 * N + 3) (nI 0)) k = isP (laF f N (Int32.ofInt ((X : Int) - 1000)) (Int32.ofInt ((Y : Int) - 1000))) k := by
      unfold isP
      rw [show upd (laF f N (Int32.ofInt ((X : Int) - 1000)) (Int32.ofInt ((Y : Int) - 1000))) (3 + 4 * N + 3) (nI 0) (4 * k + 3) = laF f N (Int32.ofInt ((X : Int) - 1000)) (Int32.ofInt ((Y : Int) - 1000)) (4 * k + 3) from if_neg (by omega)]
    have e2 : xF (upd (laF f N (Int32.ofInt ((X : Int) - 1000)) (Int32.ofInt ((Y : Int) - 1000))) (3 + 4 * N + 3) (nI 0)) k = xF (laF f N (Int32.ofInt ((X : Int) - 1000)) (Int32.ofInt ((Y : Int) - 1000))) k := if_neg (by omega)
    have e3 : yF (upd (laF f N (Int32.ofInt ((X : Int) - 1000)) (Int32.ofInt ((Y : Int) - 1000))) (3 + 4 * N + 3) (nI 0)) k = yF (laF f N (Int32.ofInt ((X : Int) - 1000)) (Int32.ofInt ((Y : Int) - 1000))) k := if_neg (by omega)
    rw [e1, e2, e3]
    exact ⟨h1, h2⟩
  · have e1 : fxF (upd (laF f N (Int32.ofInt ((X : Int) - 1000)) (Int32.ofInt ((Y : Int) - 1000))) (3 + 4 * N + 3) (nI 0)) r s = fxF (laF f N (Int32.ofInt ((X : Int) - 1000)) (Int32.ofInt ((Y : Int) - 1000))) r s := if_neg (by omega)
    rw [e1]
    exact c2 r s hr hs
theorem f_step {f : Nat → Int32} {P : List PT} {D : List TR} {N X Y m g : Nat} (I : mInv P D N) (hN : N < 40) (hF : fInv f P N g) (hm : m ≤ 1000) (hX : X = dG g % (2 * m + 1) + 1000 - m) (hY : Y = dG (dG g) % (2 * m + 1) + 1000 - m) (hx : 1 ≤ X ∧ X ≤ 1999 ∧ 1 ≤ Y ∧ Y ≤ 1999) : (isAt P N X Y → dHit f m g = false ∧ fInv (dNew f m g) P N (dG (dG g))) ∧ (¬ isAt P N X Y → dHit f m g = true ∧ fInv (dNew f m g) (nP N X Y :: P) (N + 1) (dG (dG g))) := by
  obtain ⟨H, hB, h2⟩ := hF
  have H2 := dF2_crd (g := g) H
  have hB2 := dF2_Bd (g := g) hB
  have h4 := I.2.1
  have ef : frG (dF2 f g) 36 4 = N := frG_n (fun k hk => (H2 k hk).1) hN (by omega) (by omega)
  have ex := dX_e hm hX
  have ey := dX_e (g := dG g) hm hY
  have iff : ∀ k, k < 40 → ((isP (dF2 f g) k && (decide (xF (dF2 f g) k = dX m g) && decide (yF (dF2 f g) k = dX m (dG g)))) = true ↔ k < N ∧ (lk P k).1.2 = X ∧ (lk P k).2.1.1 = Y) := by
    intro k hk
    obtain ⟨q1, q2⟩ := H2 k hk
    rw [Bool.and_eq_true, Bool.and_eq_true, decide_eq_true_eq, decide_eq_true_eq, q1, decide_eq_true_eq]
    constructor
    · rintro ⟨r1, r2, r3⟩
      obtain ⟨_, s1, s2⟩ := q2 r1
      have w := (I.1.1 k r1).2.1
      rw [s1, ex] at r2
      rw [s2, ey] at r3
      exact ⟨r1, (ofInt_eq w.2.2.2.1 (by omega)).mp r2, (ofInt_eq w.2.2.2.2 (by omega)).mp r3⟩
    · rintro ⟨r1, r2, r3⟩
      obtain ⟨_, s1, s2⟩ := q2 r1
      refine ⟨r1, ?_, ?_⟩
      · rw [s1, ex]
        unfold xP
        rw [r2]
      · rw [s2, ey]
        unfold yP
        rw [r3]
  refine ⟨fun ht => ?_, fun ht => ?_⟩
  · obtain ⟨j, j1, j2⟩ := ht
    have hp := ptG_hit (f := dF2 f g) (j := j) (by omega) ((iff j (by omega)).mpr ⟨j1, j2⟩) (m := 40) (k := 0) (by omega) (by omega)
    have hh : dHit f m g = false := by
      unfold dHit
      rw [decide_eq_false (p := ptG (dF2 f g) (dX m g) (dX m (dG g)) 40 0 = 4294967295) (by omega), Bool.and_false]
    refine ⟨hh, ?_, ?_, dNew_2⟩
    · unfold dNew
      rw [hh]
      exact H2
    · unfold dNew
      rw [hh]
      exact hB2
  · have hp := ptG_none (f := dF2 f g) (x := dX m g) (y := dX m (dG g)) (fun k hk => by
      cases e : (isP (dF2 f g) k && (decide (xF (dF2 f g) k = dX m g) && decide (yF (dF2 f g) k = dX m (dG g)))) with
      | false => rfl
      | true =>
        obtain ⟨r1, r2⟩ := (iff k hk).mp e
        exact absurd ⟨k, r1, r2⟩ ht) (m := 40) (k := 0) (by omega)
    have hh : dHit f m g = true := by
      unfold dHit
      rw [ef, hp, decide_eq_true hN]
      rfl
    have en : dNew f m g = tnF (dF2 f g) N (Int32.ofInt ((X : Int) - 1000)) (Int32.ofInt ((Y : Int) - 1000)) := by
      unfold dNew
      rw [hh, cond_true, ef, ex, ey]
    obtain ⟨k1, k2⟩ := f_new I hN H2 hB2 hx
    refine ⟨hh, ?_, ?_, dNew_2⟩
    · rw [en]
      exact k1
    · rw [en]
      exact k2
/-- the numbers drawn, two by two -/
def gch : Nat → List (Nat × Nat) → Prop
  | _, [] => True
  | g, e :: G => e = (dG g, dG (dG g)) ∧ gch (dG (dG g)) G
theorem runM_s {m e : Nat} {g : Nat × Nat} {G : List (Nat × Nat)} {P : List PT} {D : List TR} {N : Nat} : runM m e (g :: G) P D N = stp m g P D N (runM m e G) := rfl
theorem run_le {m e : Nat} : ∀ {G : List (Nat × Nat)} {P : List PT} {D : List TR} {N : Nat}, runM m e G P D N = true → mInv P D N → e ≤ N + G.length := by
  intro G
  induction G with
  | nil =>
    intro P D N h _
    have := Nat.eq_of_beq_eq_true h
    show e ≤ N + 0
    omega
  | cons g G ih =>
    intro P D N h I
    rw [runM_s] at h
    obtain ⟨X, Y, _, _, _, h1 | h1⟩ := stp_ok h I
    · have := ih h1.2 I
      rw [List.length_cons]
      omega
    · obtain ⟨_, D', I', h'⟩ := h1
      have := ih h' I'
      rw [List.length_cons]
      omega
/-- the reference can lay the mesh behind any number of places drawn -/
theorem run_lay {m e : Nat} (hm : m ≤ 1000) : ∀ {G : List (Nat × Nat)} {P : List PT} {D : List TR} {N g came : Nat} {f : Nat → Int32}, runM m e G P D N = true → mInv P D N → fInv f P N g → gch g G → N + G.length ≤ 40 → ∀ n, n ≤ G.length → ∃ L, layF (dAll m n f g came).1 = some L ∧ good L := by
  intro G
  induction G with
  | nil =>
    intro P D N g came f h I hF hg hN n hn
    obtain rfl : n = 0 := Nat.le_zero.mp hn
    have hN : N + 0 ≤ 40 := hN
    exact okM_lay hF.1 (by omega) I.2.1 I.2.2.1 hF.2.1 I.2.2.2.2.1 (by rw [List.length_map]; exact I.2.2.2.2.2)
  | cons e G ih =>
    intro P D N g came f h I hF hg hN n hn
    rw [List.length_cons] at hN hn
    cases n with
    | zero => exact okM_lay hF.1 (by omega) I.2.1 I.2.2.1 hF.2.1 I.2.2.2.2.1 (by rw [List.length_map]; exact I.2.2.2.2.2)
    | succ n =>
      rw [runM_s] at h
      obtain ⟨hg1, hg2⟩ := hg
      subst hg1
      obtain ⟨X, Y, hX, hY, hx, h1 | h1⟩ := stp_ok h I
      · obtain ⟨s1, s2⟩ := (f_step I (by omega) hF hm hX hY hx).1 h1.1
        exact ih h1.2 I s2 hg2 (by omega) n (by omega)
      · obtain ⟨ht, D', I', h'⟩ := h1
        obtain ⟨s1, s2⟩ := (f_step I (by omega) hF hm hX hY hx).2 ht
        exact ih h' I' s2 hg2 (by omega) n (by omega)
/-- where no place comes twice, all are counted -/
theorem run_all {m e : Nat} (hm : m ≤ 1000) : ∀ {G : List (Nat × Nat)} {P : List PT} {D : List TR} {N g came : Nat} {f : Nat → Int32}, runM m e G P D N = true → mInv P D N → fInv f P N g → gch g G → N + G.length = e → e ≤ 40 → ∀ n, n ≤ G.length → (dAll m n f g came).2 = came + n := by
  intro G
  induction G with
  | nil =>
    intro P D N g came f h I hF hg hN he n hn
    obtain rfl : n = 0 := Nat.le_zero.mp hn
    rfl
  | cons e0 G ih =>
    intro P D N g came f h I hF hg hN he n hn
    rw [List.length_cons] at hN hn
    cases n with
    | zero => rfl
    | succ n =>
      rw [runM_s] at h
      obtain ⟨hg1, hg2⟩ := hg
      subst hg1
      obtain ⟨X, Y, hX, hY, hx, h1 | h1⟩ := stp_ok h I
      · have := run_le h1.2 I
        omega
      · obtain ⟨ht, D', I', h'⟩ := h1
        obtain ⟨s1, s2⟩ := (f_step I (by omega) hF hm hX hY hx).2 ht
        have := ih (came := came + 1) h' I' s2 hg2 (by omega) he n (by omega)
        show (dAll m n (dNew f m g) (dG (dG g)) (bif dHit f m g then came + 1 else came)).2 = _
        rw [s1, cond_true, this]
        omega
