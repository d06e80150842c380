/-! WHICH CORNER THE REFERENCE TAKES, told by tests in whole numbers, where the border alone is fixed. By hand. -/
def bord4 (r s : Nat) : Bool := (Nat.beq r 0 && Nat.beq s 1) || ((Nat.beq r 1 && Nat.beq s 0) || ((Nat.beq r 1 && Nat.beq s 2) || ((Nat.beq r 2 && Nat.beq s 1) || ((Nat.beq r 2 && Nat.beq s 3) || ((Nat.beq r 3 && Nat.beq s 2) || ((Nat.beq r 3 && Nat.beq s 0) || (Nat.beq r 0 && Nat.beq s 3)))))))
theorem bord4_of {r s : Nat} (h : bord4 r s = true) : (r = 0 ∧ s = 1) ∨ (r = 1 ∧ s = 0) ∨ (r = 1 ∧ s = 2) ∨ (r = 2 ∧ s = 1) ∨ (r = 2 ∧ s = 3) ∨ (r = 3 ∧ s = 2) ∨ (r = 3 ∧ s = 0) ∨ (r = 0 ∧ s = 3) := by
  unfold bord4 at h
  simp only [Bool.or_eq_true, Bool.and_eq_true, Nat.beq_eq] at h
  exact h
/-- the border alone is fixed -/
def Bd (f : Nat → Int32) : Prop := ∀ r s, r < 40 → s < 40 → fxF f r s = bif bord4 r s then nI 2 else nI 0
/-- the four corners of the square -/
def Cn (x y : Nat → Int) : Prop := (x 0 = 0 ∧ y 0 = 0) ∧ (x 1 = 2000 ∧ y 1 = 0) ∧ (x 2 = 2000 ∧ y 2 = 2000) ∧ (x 3 = 0 ∧ y 3 = 2000)
theorem apB_p {v w : Int32} (h1 : 0 ≤ v) (h2 : 0 ≤ w) : apB v w = false := by
  unfold apB
  have h3 : ¬ w < 0 := by rw [Int32.lt_iff_toInt_lt]; rw [Int32.le_iff_toInt_le] at h2; exact Int.not_lt.mpr h2
  rw [decide_eq_false h3, decide_eq_true h1, Bool.and_false]
  rfl
theorem apB_n {v w : Int32} (h1 : v ≤ 0) (h2 : w ≤ 0) : apB v w = false := by
  unfold apB
  rw [decide_eq_true h1, decide_eq_true h2, Bool.not_true, Bool.and_false, Bool.false_and]
  rfl
section
variable {f : Nat → Int32} {N : Nat} {x y : Nat → Int}
/-- all points lie on one side of a border edge -/
theorem side4 {r s p : Nat} (H : crd f N x y) (hN : N ≤ 40) (hc : Cn x y) (hb : bord4 r s = true) (hp : p < N) : ((r + 1) % 4 = s → 0 ≤ tI x y r s p) ∧ ((s + 1) % 4 = r → tI x y r s p ≤ 0) := by
  have bp := crd_b H hN hp
  obtain ⟨⟨a1, a2⟩, ⟨a3, a4⟩, ⟨a5, a6⟩, ⟨a7, a8⟩⟩ := hc
  unfold tI
  rcases bord4_of hb with ⟨rfl, rfl⟩ | ⟨rfl, rfl⟩ | ⟨rfl, rfl⟩ | ⟨rfl, rfl⟩ | ⟨rfl, rfl⟩ | ⟨rfl, rfl⟩ | ⟨rfl, rfl⟩ | ⟨rfl, rfl⟩ <;> simp only [a1, a2, a3, a4, a5, a6, a7, a8] <;> omega
theorem bord4_dir {r s : Nat} (hb : bord4 r s = true) : (r + 1) % 4 = s ∨ (s + 1) % 4 = r := by
  rcases bord4_of hb with ⟨rfl, rfl⟩ | ⟨rfl, rfl⟩ | ⟨rfl, rfl⟩ | ⟨rfl, rfl⟩ | ⟨rfl, rfl⟩ | ⟨rfl, rfl⟩ | ⟨rfl, rfl⟩ | ⟨rfl, rfl⟩ <;> decide
theorem bord4_lt {r s : Nat} (hb : bord4 r s = true) : r < 4 ∧ s < 4 := by
  rcases bord4_of hb with ⟨rfl, rfl⟩ | ⟨rfl, rfl⟩ | ⟨rfl, rfl⟩ | ⟨rfl, rfl⟩ | ⟨rfl, rfl⟩ | ⟨rfl, rfl⟩ | ⟨rfl, rfl⟩ | ⟨rfl, rfl⟩ <;> decide
theorem uncut_t {p c : Nat} (H : crd f N x y) (hN : N ≤ 40) (h4 : 4 ≤ N) (hc : Cn x y) (hB : Bd f) (hp : p < N) (hcN : c < N) : uncutF f p c = true := by
  unfold uncutF
  rw [List.all_eq_true]
  intro r hr
  rw [List.all_eq_true]
  intro s hs
  rw [List.mem_range'_1] at hr hs
  unfold unP
  cases hb : bord4 r s with
  | false =>
    rw [hB r s (by omega) (by omega), hb, cond_false, decide_eq_true (show nI 0 = 0 from rfl)]
    rfl
  | true =>
    have hl := bord4_lt hb
    have hx : crossF f p c r s = false := by
      unfold crossF
      have e1 := side4 H hN hc hb hp
      have e2 := side4 H hN hc hb hcN
      rcases bord4_dir hb with hd | hd
      · rw [apB_p ((turn_le H hN (by omega) (by omega) hp).2.mpr (e1.1 hd)) ((turn_le H hN (by omega) (by omega) hcN).2.mpr (e2.1 hd)), Bool.and_false]
      · rw [apB_n ((turn_le H hN (by omega) (by omega) hp).1.mpr (e1.2 hd)) ((turn_le H hN (by omega) (by omega) hcN).1.mpr (e2.2 hd)), Bool.and_false]
    rw [hx, Bool.and_false]
    rfl
def aI (x y : Nat → Int) (p q r : Nat) : Int := (x q - x p) * (x r - x p) + (y q - y p) * (y r - y p)
def qI (x y : Nat → Int) (p q : Nat) : Int := (x q - x p) * (x q - x p) + (y q - y p) * (y q - y p)
theorem al_e {p q r : Nat} (H : crd f N x y) (hN : N ≤ 40) (hp : p < N) (hq : q < N) (hr : r < N) : alF f p q (xF f r) (yF f r) = Int32.ofInt (aI x y p q r) := by
  unfold alF aI
  rw [crd_x H hN hp, crd_x H hN hq, crd_x H hN hr, crd_y H hN hp, crd_y H hN hq, crd_y H hN hr]
  rw [← Int32.ofInt_sub, ← Int32.ofInt_sub, ← Int32.ofInt_sub, ← Int32.ofInt_sub, ← Int32.ofInt_mul, ← Int32.ofInt_mul, ← Int32.ofInt_add]
  congr 1
  rw [show x q - 1000 - (x p - 1000) = x q - x p by omega, show y r - 1000 - (y p - 1000) = y r - y p by omega, show y q - 1000 - (y p - 1000) = y q - y p by omega, show x r - 1000 - (x p - 1000) = x r - x p by omega]
theorem sq_e {p q : Nat} (H : crd f N x y) (hN : N ≤ 40) (hp : p < N) (hq : q < N) : squareF f p q = Int32.ofInt (qI x y p q) := by
  unfold squareF qI
  rw [crd_x H hN hp, crd_x H hN hq, crd_y H hN hp, crd_y H hN hq]
  rw [← Int32.ofInt_sub, ← Int32.ofInt_sub, ← Int32.ofInt_mul, ← Int32.ofInt_mul, ← Int32.ofInt_add]
  congr 1
  rw [show x q - 1000 - (x p - 1000) = x q - x p by omega, show y q - 1000 - (y p - 1000) = y q - y p by omega]
theorem aI_b {p q r : Nat} (H : crd f N x y) (hN : N ≤ 40) (hp : p < N) (hq : q < N) (hr : r < N) : -8000000 ≤ aI x y p q r ∧ aI x y p q r ≤ 8000000 := by
  have hp := crd_b H hN hp
  have hq := crd_b H hN hq
  have hr := crd_b H hN hr
  unfold aI
  have h1 := mul_b (a := x q - x p) (b := x r - x p) (A := 2000) (B := 2000) (by omega) (by omega) (by omega) (by omega)
  have h2 := mul_b (a := y q - y p) (b := y r - y p) (A := 2000) (B := 2000) (by omega) (by omega) (by omega) (by omega)
  omega
theorem betw_of {p q r : Nat} (H : crd f N x y) (hN : N ≤ 40) (hp : p < N) (hq : q < N) (hr : r < N) (h : betwF f p q (xF f r) (yF f r) = true) : tI x y p q r = 0 ∧ 0 < aI x y p q r ∧ aI x y p q r < qI x y p q := by
  have b1 := tI_b H hN hp hq hr
  have b2 := aI_b H hN hp hq hr
  have b3 : -8000000 ≤ qI x y p q ∧ qI x y p q ≤ 8000000 := aI_b H hN hp hq hq
  unfold betwF at h
  rw [al_e H hN hp hq hr, sq_e H hN hp hq, show sideF f p q (xF f r) (yF f r) = Int32.ofInt (tI x y p q r) from turn_e H hN hp hq hr] at h
  rw [Bool.and_eq_true, Bool.and_eq_true, Bool.not_eq_true', Bool.not_eq_true', decide_eq_true_eq, decide_eq_false_iff_not, decide_eq_false_iff_not, Int32.le_iff_toInt_le, Int32.le_iff_toInt_le, ← Int32.toInt_inj, i32_small (by omega) (by omega), i32_small (by omega) (by omega), i32_small (by omega) (by omega)] at h
  obtain ⟨h1, h2, h3⟩ := h
  refine ⟨h1, ?_, by omega⟩
  have : ¬ aI x y p q r ≤ 0 := h2
  omega
theorem beI_p {p q r s : Nat} (h : 0 < iI x y p q r s) : beI x y p q r s = true := by
  unfold beI
  rw [decide_eq_false (show ¬ iI x y p q r s = 0 by omega), cond_false]
  exact decide_eq_true h
theorem beI_n {p q r s : Nat} (h : iI x y p q r s < 0) : beI x y p q r s = false := by
  unfold beI
  rw [decide_eq_false (show ¬ iI x y p q r s = 0 by omega), cond_false]
  exact decide_eq_false (by omega)
/-- what the tests say of a corner against another point -/
def tst (x y : Nat → Int) (p q c r : Nat) : Prop := (r < c → beI x y p q r c = true) ∧ (c < r → beI x y p q c r = false)
theorem tst_no {p q c r : Nat} (h : tst x y p q c r) (hne : r ≠ c) (hi : 0 < iI x y p q c r) : False := by
  rcases Nat.lt_or_ge r c with h1 | h1
  · have := h.1 h1
    rw [beI_n (by rw [iI_s]; omega)] at this
    cases this
  · have := h.2 (by omega)
    rw [beI_p hi] at this
    cases this
theorem clear_p {p q c : Nat} (H : crd f N x y) (hN : N ≤ 40) (hp : p < N) (hq : q < N) (hcN : c < N) (hT : 0 < tI x y p q c) (hR : ∀ r, r < N → r ≠ p → r ≠ q → r ≠ c → 0 < tI x y p q r → tst x y p q c r) : clearF f p c = true := by
  unfold clearF
  rw [List.all_eq_true]
  intro r hr
  rw [List.mem_range'_1] at hr
  unfold clP
  rw [Bool.not_eq_true']
  cases hh : (isP f r && !(decide (r = p)) && !(decide (r = c)) && betwF f p c (xF f r) (yF f r)) with
  | false => rfl
  | true =>
    exfalso
    rw [Bool.and_eq_true, Bool.and_eq_true, Bool.and_eq_true, Bool.not_eq_true', Bool.not_eq_true', decide_eq_false_iff_not, decide_eq_false_iff_not] at hh
    obtain ⟨⟨⟨h1, h2⟩, h3⟩, h4⟩ := hh
    have hrN : r < N := by
      have := (H r (by omega)).1
      rw [h1] at this
      exact of_decide_eq_true this.symm
    obtain ⟨k1, k2, k3⟩ := betw_of H hN hp hcN hrN h4
    unfold tI at hT k1
    unfold aI at k2 k3
    unfold qI at k3
    have e1 := btw_t k1 k2 k3 hT
    have e2 := btw_i k1 k2 k3 hT
    have e3 : iI x y p q c r = jI (0 - (x r - x p)) (0 - (y r - y p)) (x q - x p - (x r - x p)) (y q - y p - (y r - y p)) (x c - x p - (x r - x p)) (y c - y p - (y r - y p)) := by
      unfold iI
      congr 1 <;> omega
    rw [← e3] at e2
    refine tst_no (hR r hrN h2 (fun e => ?_) h3 e1) h3 e2
    subst e
    have : (x r - x p) * (y r - y p) - (y r - y p) * (x r - x p) = 0 := by rw [Int.mul_comm]; omega
    omega
theorem clear_q {p q c : Nat} (H : crd f N x y) (hN : N ≤ 40) (hp : p < N) (hq : q < N) (hcN : c < N) (hT : 0 < tI x y p q c) (hR : ∀ r, r < N → r ≠ p → r ≠ q → r ≠ c → 0 < tI x y p q r → tst x y p q c r) : clearF f q c = true := by
  unfold clearF
  rw [List.all_eq_true]
  intro r hr
  rw [List.mem_range'_1] at hr
  unfold clP
  rw [Bool.not_eq_true']
  cases hh : (isP f r && !(decide (r = q)) && !(decide (r = c)) && betwF f q c (xF f r) (yF f r)) with
  | false => rfl
  | true =>
    exfalso
    rw [Bool.and_eq_true, Bool.and_eq_true, Bool.and_eq_true, Bool.not_eq_true', Bool.not_eq_true', decide_eq_false_iff_not, decide_eq_false_iff_not] at hh
    obtain ⟨⟨⟨h1, h2⟩, h3⟩, h4⟩ := hh
    have hrN : r < N := by
      have := (H r (by omega)).1
      rw [h1] at this
      exact of_decide_eq_true this.symm
    obtain ⟨k1, k2, k3⟩ := betw_of H hN hq hcN hrN h4
    have t1 : 0 < tI x y p q r := by
      have := btw_t (ux := x c - x q) (uy := y c - y q) (sx := x r - x q) (sy := y r - y q) (vx := x q - x p) (vy := y q - y p) k1 k2 k3 (by
        have e : (x q - x p) * (y c - y q) - (y q - y p) * (x c - x q) = tI x y p q c := by unfold tI; grind
        omega)
      have e : (x q - x p) * (y r - y q) - (y q - y p) * (x r - x q) = tI x y p q r := by unfold tI; grind
      omega
    unfold tI at k1
    unfold aI at k2 k3
    unfold qI at k3
    have e2 := btw_i (ux := x q - x c) (uy := y q - y c) (sx := x r - x c) (sy := y r - y c) (vx := x p - x c) (vy := y p - y c) (by grind) (by grind) (by grind) (by
        have e : (x p - x c) * (y q - y c) - (y p - y c) * (x q - x c) = tI x y p q c := by unfold tI; grind
        omega)
    have e3 : iI x y c p q r = jI (0 - (x r - x c)) (0 - (y r - y c)) (x p - x c - (x r - x c)) (y p - y c - (y r - y c)) (x q - x c - (x r - x c)) (y q - y c - (y r - y c)) := by
      unfold iI
      congr 1 <;> omega
    rw [← e3, ← iI_c] at e2
    refine tst_no (hR r hrN (fun e => ?_) h2 h3 t1) h3 e2
    subst e
    have : tI x y r q r = 0 := by unfold tI; grind
    omega
theorem corn_t {p q c : Nat} (H : crd f N x y) (hN : N ≤ 40) (h4 : 4 ≤ N) (hc : Cn x y) (hB : Bd f) (hp : p < N) (hq : q < N) (hcN : c < N) (hT : 0 < tI x y p q c) (hR : ∀ r, r < N → r ≠ p → r ≠ q → r ≠ c → 0 < tI x y p q r → tst x y p q c r) : cornF f p q = c := by
  have hz : ∀ r, 0 < tI x y p q r → r ≠ p ∧ r ≠ q := by
    intro r h
    refine ⟨fun e => ?_, fun e => ?_⟩
    · subst e
      have : tI x y r q r = 0 := by unfold tI; grind
      omega
    · subst e
      have : tI x y p r r = 0 := by unfold tI; grind
      omega
  have s1 : seesF f p c = true := by
    unfold seesF
    rw [clear_p H hN hp hq hcN hT hR, uncut_t H hN h4 hc hB hp hcN]
    rfl
  have s2 : seesF f q c = true := by
    unfold seesF
    rw [clear_q H hN hp hq hcN hT hR, uncut_t H hN h4 hc hB hq hcN]
    rfl
  have cand : ∀ (b r : Nat), r < 40 → cStep f p q b r = b ∨ (cStep f p q b r = r ∧ r < N ∧ 0 < tI x y p q r ∧ (Nat.beq b pNone || betF f p q b r) = true) := by
    intro b r hr
    unfold cStep
    cases hh : (isP f r && !(decide (turnF f p q r ≤ 0)) && seesF f p r && seesF f q r && (Nat.beq b pNone || betF f p q b r)) with
    | false => exact .inl rfl
    | true =>
      rw [Bool.and_eq_true, Bool.and_eq_true, Bool.and_eq_true, Bool.and_eq_true, Bool.not_eq_true', decide_eq_false_iff_not] at hh
      obtain ⟨⟨⟨⟨h1, h2⟩, _⟩, _⟩, h5⟩ := hh
      have hrN : r < N := by
        have := (H r (by omega)).1
        rw [h1] at this
        exact of_decide_eq_true this.symm
      rw [(turn_le H hN hp hq hrN).1] at h2
      exact .inr ⟨rfl, hrN, by omega, h5⟩
  have fA : ∀ (m k b : Nat), k + m ≤ c → (b = pNone ∨ (b < k ∧ b < N ∧ 0 < tI x y p q b)) → ((List.range' k m).foldl (cStep f p q) b = pNone ∨ ((List.range' k m).foldl (cStep f p q) b < k + m ∧ (List.range' k m).foldl (cStep f p q) b < N ∧ 0 < tI x y p q ((List.range' k m).foldl (cStep f p q) b))) := by
    intro m
    induction m with
    | zero => intro k b _ hb; exact hb
    | succ m ih =>
      intro k b hk hb
      rw [List.range'_succ, List.foldl_cons, show k + (m + 1) = (k + 1) + m by omega]
      refine ih (k + 1) _ (by omega) ?_
      rcases cand b k (by omega) with e | ⟨e, h1, h2, _⟩
      · rw [e]
        rcases hb with hb | ⟨g1, g2, g3⟩
        · exact .inl hb
        · exact .inr ⟨by omega, g2, g3⟩
      · rw [e]
        exact .inr ⟨by omega, h1, h2⟩
  have fB : ∀ (m k : Nat), c < k → k + m = 40 → (List.range' k m).foldl (cStep f p q) c = c := by
    intro m
    induction m with
    | zero => intro k _ _; rfl
    | succ m ih =>
      intro k hk hm
      rw [List.range'_succ, List.foldl_cons]
      rcases cand c k (by omega) with e | ⟨e, h1, h2, h3⟩
      · rw [e]
        exact ih (k + 1) (by omega) (by omega)
      · exfalso
        obtain ⟨z1, z2⟩ := hz k h2
        have := (hR k h1 z1 z2 (by omega) h2).2 hk
        rw [bet_e H hN hp hq hcN h1, this, Bool.or_false] at h3
        have := Nat.eq_of_beq_eq_true h3
        unfold pNone at this
        omega
  have e1 : List.range' 0 40 = List.range' 0 c ++ (c :: List.range' (c + 1) (39 - c)) := by
    rw [← List.range'_succ, show 39 - c + 1 = 40 - c by omega]
    have := List.range'_append (s := 0) (m := c) (n := 40 - c) (step := 1)
    rw [Nat.zero_add, Nat.one_mul, show c + (40 - c) = 40 by omega] at this
    exact this.symm
  unfold cornF
  rw [e1, List.foldl_append, List.foldl_cons]
  have hb := fA c 0 pNone (by omega) (.inl rfl)
  generalize (List.range' 0 c).foldl (cStep f p q) pNone = b at hb
  have e2 : cStep f p q b c = c := by
    unfold cStep
    have i1 : isP f c = true := by
      rw [(H c (by omega)).1]
      exact decide_eq_true hcN
    have i2 : decide (turnF f p q c ≤ 0) = false := decide_eq_false (by rw [(turn_le H hN hp hq hcN).1]; omega)
    have i3 : (Nat.beq b pNone || betF f p q b c) = true := by
      rcases hb with hb | ⟨g1, g2, g3⟩
      · rw [hb]
        rfl
      · obtain ⟨z1, z2⟩ := hz b g3
        rw [bet_e H hN hp hq g2 hcN, (hR b g2 z1 z2 (by omega) g3).1 (by omega), Bool.or_true]
    rw [i1, i2, s1, s2, i3]
    rfl
  rw [e2]
  exact fB (39 - c) (c + 1) (by omega) (by omega)
end
