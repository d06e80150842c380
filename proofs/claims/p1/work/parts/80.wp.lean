/-! A RUN AND WHAT IT LEADS TO; the class's world by its bounds. By hand. -/
def qE (i : Nat) (q : pSt) (Φ : Option Value → pW → Prop) : Prop := ∃ r w', Φ r w' ∧ pRest i q r w'
def qC (j : Nat) (as : List Value) (w : pW) (Φ : Option Value → pW → Prop) : Prop := ∃ r w', Φ r w' ∧ pRun j as w r w'
theorem pe_go {i pc : Nat} {ins : Instr} {dt : List Nat} {lv : pLv} {st : List Value} {w : pW} {q : pSt} {Φ : Option Value → pW → Prop} (hI : pI i pc = some (ins, dt)) (h : pS1 ins pc dt lv st w = some (.inl q)) (K : qE i q Φ) : qE i (pc, lv, st, w) Φ := by
  obtain ⟨r, w', h1, h2⟩ := K
  exact ⟨r, w', h1, pr_go hI h h2⟩
theorem pe_call {i pc : Nat} {ins : Instr} {dt : List Nat} {lv : pLv} {st : List Value} {w : pW} {j : Nat} {as rest : List Value} {r1 : Option Value} {w1 : pW} {Φ : Option Value → pW → Prop} (hI : pI i pc = some (ins, dt)) (h : pS1 ins pc dt lv st w = some (.inr (.inl (j, as, rest)))) (hc : pRun j as w r1 w1) (K : qE i (pc + 3, lv, r1.toList ++ rest, w1) Φ) : qE i (pc, lv, st, w) Φ := by
  obtain ⟨r, w', h1, h2⟩ := K
  exact ⟨r, w', h1, pr_call hI h hc h2⟩
theorem pe_callE {i pc : Nat} {ins : Instr} {dt : List Nat} {lv : pLv} {st : List Value} {w : pW} {j : Nat} {as rest : List Value} {Φ Ψ : Option Value → pW → Prop} (hI : pI i pc = some (ins, dt)) (h : pS1 ins pc dt lv st w = some (.inr (.inl (j, as, rest)))) (hc : qC j as w Ψ) (K : ∀ r1 w1, Ψ r1 w1 → qE i (pc + 3, lv, r1.toList ++ rest, w1) Φ) : qE i (pc, lv, st, w) Φ := by
  obtain ⟨r1, w1, h1, h2⟩ := hc
  exact pe_call hI h h2 (K r1 w1 h1)
theorem pe_ret {i pc : Nat} {ins : Instr} {dt : List Nat} {lv : pLv} {st : List Value} {w : pW} {r : Option Value} {Φ : Option Value → pW → Prop} (hI : pI i pc = some (ins, dt)) (h : pS1 ins pc dt lv st w = some (.inr (.inr r))) (hp : Φ r w) : qE i (pc, lv, st, w) Φ := ⟨r, w, hp, pr_ret hI h⟩
theorem pc_run {j : Nat} {as : List Value} {w : pW} {lv : pLv} {Φ : Option Value → pW → Prop} (hlv : lv_args 0 as = lv) (K : qE j (0, lv, [], w) Φ) : qC j as w Φ := by
  obtain ⟨r, w', h1, h2⟩ := K
  exact ⟨r, w', h1, pr_run hlv h2⟩
theorem pe_less {i pc : Nat} {lv lv' : pLv} {st : List Value} {w : pW} {Φ : Option Value → pW → Prop} (H : lvLe lv lv') (K : qE i (pc, lv, st, w) Φ) : qE i (pc, lv', st, w) Φ := by
  obtain ⟨r, w', h1, h2⟩ := K
  exact ⟨r, w', h1, pr_less H h2⟩
theorem pe_mono {i : Nat} {q : pSt} {Φ Ψ : Option Value → pW → Prop} (H : ∀ r w, Φ r w → Ψ r w) (K : qE i q Φ) : qE i q Ψ := by
  obtain ⟨r, w', h1, h2⟩ := K
  exact ⟨r, w', H r w' h1, h2⟩
-- instructions
theorem s_alenN {pc k a n : Nat} {lv : pLv} {st : List Value} {w : pW} {x : vp_A} (hw : w[a]? = some (.inl (k, x))) (hn : x.1 = n) (hk : Nat.ble k 2 = true) : pS1 .arraylength pc [] lv (.ref a :: st) w = some (.inl (pc + 1, lv, .int (nI n) :: st, w)) := by
  subst hn
  exact s_alen hw hk
theorem s_idivN {pc a b c : Nat} {lv : pLv} {st : List Value} {w : pW} (ha : a < 2 ^ 31) (hb : b < 2 ^ 31) (h0 : 0 < b) (h : a / b = c) : pS1 .idiv pc [] lv (.int (nI b) :: .int (nI a) :: st) w = some (.inl (pc + 1, lv, .int (nI c) :: st, w)) := by
  subst h
  rw [show nI (a / b) = nI a / nI b from Int32.ofNat_div ha hb]
  show pDiv (pc + 1) lv (.int (nI b) :: .int (nI a) :: st) w (fun x y => x / y) = _
  unfold pDiv
  have : ¬ nI b = 0 := fun e => by
    have := (nI_eq (a := b) (b := 0) hb (by decide)).mp e
    omega
  simp only [this, decide_false, cond_false]
  rfl
theorem s_ldcN {pc v x : Nat} {n : Nat} {lv : pLv} {st : List Value} {w : pW} : pS1 (.ldc n) pc [v, x] lv st w = some (.inl (pc + 2, lv, .int (nI v) :: st, w)) := rfl
theorem s_ldc2w {pc v x : Nat} {n : Nat} {lv : pLv} {st : List Value} {w : pW} : pS1 (.ldc2_w n) pc [v, x] lv st w = some (.inl (pc + 3, lv, .long (Int64.ofNat v) :: st, w)) := rfl
theorem nm1_le {k : Nat} (h : k < 2 ^ 31) : nI 4294967295 ≤ nI k := by
  rw [Int32.le_iff_toInt_le, nI_toInt h, show (nI 4294967295).toInt = -1 from by decide]
  omega
theorem nm1_lt {k : Nat} (h : k < 2 ^ 31) : nI 4294967295 < nI k := by
  rw [Int32.lt_iff_toInt_lt, nI_toInt h, show (nI 4294967295).toInt = -1 from by decide]
  omega
theorem nm1_nge {k : Nat} (h : k < 2 ^ 31) : ¬ nI k ≤ nI 4294967295 := by
  rw [Int32.le_iff_toInt_le, nI_toInt h, show (nI 4294967295).toInt = -1 from by decide]
  omega
theorem nm1_ngt {k : Nat} (h : k < 2 ^ 31) : ¬ nI k < nI 4294967295 := by
  rw [Int32.lt_iff_toInt_lt, nI_toInt h, show (nI 4294967295).toInt = -1 from by decide]
  omega
-- bounds
def okAp (ap : Nat → Int32) : Prop := ∀ j, j < 1600 → ap j = nI 4294967295 ∨ ∃ k, k < 40 ∧ ap j = nI k
def okCo (co : Nat → Int32) : Prop := ∀ j, j < 222 → ∃ k, k < 40 ∧ co j = nI k
def okQu (qu : Nat → Int32) : Prop := ∀ j, j < 800 → ∃ k, k < 1600 ∧ qu j = nI k
theorem okAp_k {ap : Nat → Int32} {i k : Nat} (h : okAp ap) (hk : k < 40) : okAp (upd ap i (nI k)) := by
  intro j hj
  unfold upd
  by_cases e : j = i
  · rw [if_pos e]
    exact .inr ⟨k, hk, rfl⟩
  · rw [if_neg e]
    exact h j hj
theorem okAp_n {ap : Nat → Int32} {i : Nat} (h : okAp ap) : okAp (upd ap i (nI 4294967295)) := by
  intro j hj
  unfold upd
  by_cases e : j = i
  · rw [if_pos e]
    exact .inl rfl
  · rw [if_neg e]
    exact h j hj
theorem okCo_k {co : Nat → Int32} {i k : Nat} (h : okCo co) (hk : k < 40) : okCo (upd co i (nI k)) := by
  intro j hj
  unfold upd
  by_cases e : j = i
  · rw [if_pos e]
    exact ⟨k, hk, rfl⟩
  · rw [if_neg e]
    exact h j hj
theorem okQu_k {qu : Nat → Int32} {i k : Nat} (h : okQu qu) (hk : k < 1600) : okQu (upd qu i (nI k)) := by
  intro j hj
  unfold upd
  by_cases e : j = i
  · rw [if_pos e]
    exact ⟨k, hk, rfl⟩
  · rw [if_neg e]
    exact h j hj
theorem okAp_3 {ap : Nat → Int32} {a b c : Nat} (h : okAp ap) (ha : a < 40) (hb : b < 40) (hc : c < 40) : okAp (a3F ap a b c (nI c) (nI a) (nI b)) := okAp_k (okAp_k (okAp_k h hc) ha) hb
theorem okAp_s {ap : Nat → Int32} {a b c : Nat} (h : okAp ap) : okAp (a3F ap a b c (nI 4294967295) (nI 4294967295) (nI 4294967295)) := okAp_n (okAp_n (okAp_n h))
/-- the class's world, of which points, places, G and the rest (Q) are known; the mesh's rows only by their bounds -/
def cK (xs ys hx hy : Nat → Int32) (th : Int64) (hn g : Int32) (rd : Nat → Int32) (Q : pW) (w : pW) : Prop := ∃ (hs : Nat → Int32) (fx : Nat → Int64) (ap ow co en : Nat → Int32) (ne : Nat → Int64) (t e : Nat) (li wa : Nat → Int64) (qu : Nat → Int32) (n : Nat), okAp ap ∧ okCo co ∧ okQu qu ∧ t ≤ 74 ∧ e ≤ 113 ∧ n ≤ 800 ∧ w = cM xs ys hs fx hx hy th hn g ap ow co en ne rd (nI t) (nI e) li wa qu (nI n) Q
def cN (xs ys hx hy : Nat → Int32) (th : Int64) (hn g : Int32) (rd : Nat → Int32) (Q : pW) (r : Option Value) (w : pW) : Prop := r = none ∧ cK xs ys hx hy th hn g rd Q w
