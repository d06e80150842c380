/-! THE LAW'S SHEETS: how they lie in the world; what they are asked. By hand, rows laid by program (wip/p63/wk.py, hw.py, mk90.py). -/
abbrev rfs (f : Nat → Option Nat) : (Nat → Int32) ⊕ (Nat → Int64) ⊕ (Nat → UInt32) ⊕ (Nat → UInt64) ⊕ (Nat → Option Nat) := .inr (.inr (.inr (.inr f)))
theorem s_aald {pc a n k r kd : Nat} {lv : pLv} {st : List Value} {w : pW} {z : Int} {f : Nat → Option Nat} (hw : w[a]? = some (.inl (kd + 3, n, rfs f))) (hz : z = (k : Int)) (hk : k < n ∧ n < 2147483648 ∧ kd ≤ 2) (hf : f k = some r) : pS1 .aaload pc [] lv (.int (iI z) :: .ref a :: st) w = some (.inl (pc + 1, lv, .ref r :: st, w)) := by
  show pALdA (pc + 1) lv (.int (iI z) :: .ref a :: st) w = _
  unfold pALdA
  simp only [hw, iI_in hz hk.1 (Nat.le_of_lt hk.2.1), iI_idx hz (by omega), hf, Nat.ble_eq_true_of_le (show 3 ≤ kd + 3 by omega), Nat.ble_eq_true_of_le (show kd + 3 ≤ 5 by omega)]
  rfl
theorem s_aaldN {pc a n k kd : Nat} {lv : pLv} {st : List Value} {w : pW} {z : Int} {f : Nat → Option Nat} (hw : w[a]? = some (.inl (kd + 3, n, rfs f))) (hz : z = (k : Int)) (hk : k < n ∧ n < 2147483648 ∧ kd ≤ 2) (hf : f k = none) : pS1 .aaload pc [] lv (.int (iI z) :: .ref a :: st) w = some (.inl (pc + 1, lv, .null :: st, w)) := by
  show pALdA (pc + 1) lv (.int (iI z) :: .ref a :: st) w = _
  unfold pALdA
  simp only [hw, iI_in hz hk.1 (Nat.le_of_lt hk.2.1), iI_idx hz (by omega), hf, Nat.ble_eq_true_of_le (show 3 ≤ kd + 3 by omega), Nat.ble_eq_true_of_le (show kd + 3 ≤ 5 by omega)]
  rfl
theorem s_alenR {pc a n kd : Nat} {lv : pLv} {st : List Value} {w : pW} {f : Nat → Option Nat} (hw : w[a]? = some (.inl (kd + 3, n, rfs f)) ∧ kd ≤ 2) : pS1 .arraylength pc [] lv (.ref a :: st) w = some (.inl (pc + 1, lv, .int (iI (n : Int)) :: st, w)) := by
  show pALen (pc + 1) lv (.ref a :: st) w = _
  unfold pALen
  simp only [hw.1, Nat.ble_eq_true_of_le (show kd + 3 ≤ 5 by omega)]
  rw [← iI_n]
  rfl
/-- a row of ints at r -/
def rowI (w : pW) (r n : Nat) (f : Nat → Int) : Prop := w[r]? = some (.inl (0, n, .inl (fun j => iI (f j))))
def row3 (x y z : Int) : Nat → Int := uZ (uZ (uZ (fun _ => 0) 0 x) 1 y) 2 z
def row2 (x y : Int) : Nat → Int := uZ (uZ (fun _ => 0) 0 x) 1 y
/-- what a sheet says: points with places and heights, what is fixed, how many holes, G -/
abbrev Sh : Type := (Nat → Option (Int × Int × Int)) × (Nat → Nat → Int) × Nat × Int
/-- a sheet at a: what is its own lies where O says, all else where Q says -/
def shP (w : pW) (O Q : Nat → Prop) (a : Nat) (X : Sh) (pa fa ha : Nat) (pf gf hf : Nat → Option Nat) (ff : Nat → Nat) : Prop :=
  (O a ∧ O pa ∧ O fa ∧ Q ha ∧ fa ≠ pa ∧ ha ≠ pa ∧ ha ≠ fa) ∧
  w[a]? = some (.inr (9, [.ref pa, .ref fa, .ref ha, .int (iI X.2.2.2)])) ∧
  w[pa]? = some (.inl (3, 40, rfs pf)) ∧
  (∀ k : Nat, k < 40 → X.1 k = none → pf k = none) ∧
  (∀ (k : Nat) (x y z : Int), k < 40 → X.1 k = some (x, y, z) → ∃ r : Nat, pf k = some r ∧ Q r ∧ rowI w r 3 (row3 x y z)) ∧
  w[fa]? = some (.inl (3, 40, rfs gf)) ∧
  (∀ k : Nat, k < 40 → gf k = some (ff k) ∧ O (ff k) ∧ rowI w (ff k) 40 (X.2.1 k)) ∧
  (∀ j k : Nat, j < 40 → k < 40 → ff j = ff k → j = k) ∧
  w[ha]? = some (.inl (3, X.2.2.1, rfs hf)) ∧
  X.2.2.1 ≤ 8 ∧
  ∀ k : Nat, k < X.2.2.1 → ∃ (r : Nat) (x y : Int), hf k = some r ∧ Q r ∧ rowI w r 2 (row2 x y) ∧ inSq x y
def shAt (w : pW) (O Q : Nat → Prop) (a : Nat) (X : Sh) : Prop := ∃ (pa fa ha : Nat) (pf gf hf : Nat → Option Nat) (ff : Nat → Nat), shP w O Q a X pa fa ha pf gf hf ff
/-- its numbers are within their bounds -/
def Sh.Ok (X : Sh) : Prop := (∀ (k : Nat) (x y z : Int), k < 40 → X.1 k = some (x, y, z) → inSq x y ∧ -9999 ≤ z ∧ z ≤ 9999) ∧ (∀ p q : Nat, p < 40 → q < 40 → 0 ≤ X.2.1 p q ∧ X.2.1 p q ≤ 2) ∧ 0 ≤ X.2.2.2 ∧ X.2.2.2 < 30047
/-- nothing else than what is told by P is changed, and the world may have grown -/
def agr (P : Nat → Prop) (w w' : pW) : Prop := w.length ≤ w'.length ∧ ∀ i : Nat, i < w.length → ¬ P i → w'[i]? = w[i]?
theorem agr_refl (P : Nat → Prop) (w : pW) : agr P w w := ⟨Nat.le_refl _, fun _ _ _ => rfl⟩
theorem agr_trans {P Q : Nat → Prop} {w w1 w2 : pW} (h : agr P w w1) (k : agr Q w1 w2) (hPQ : ∀ i : Nat, P i → Q i) : agr Q w w2 := ⟨Nat.le_trans h.1 k.1, fun i hi hq => (k.2 i (Nat.lt_of_lt_of_le hi h.1) hq).trans (h.2 i hi (fun z => hq (hPQ i z)))⟩
theorem agr_mono {P Q : Nat → Prop} {w w1 : pW} (h : agr P w w1) (hPQ : ∀ i : Nat, P i → Q i) : agr Q w w1 := ⟨h.1, fun i hi hq => h.2 i hi (fun z => hq (hPQ i z))⟩
theorem get_lt {w : pW} {i : Nat} {c : pCell} (h : w[i]? = some c) : i < w.length := (List.getElem?_eq_some_iff.mp h).1
theorem sh_agr {P : Nat → Prop} {w w' : pW} {O Q : Nat → Prop} {a : Nat} {X : Sh} (h : shAt w O Q a X) (k : agr P w w') (hP : ∀ i : Nat, P i → ¬ O i ∧ ¬ Q i) : shAt w' O Q a X := by
  obtain ⟨pa, fa, ha, pf, gf, hf, ff, hb, h0, h1, h2, h3, h4, h5, h6, h7, h8, h9⟩ := h
  have keep : ∀ (i : Nat) (c : pCell), O i ∨ Q i → w[i]? = some c → w'[i]? = some c := fun i c h1 h2 => (k.2 i (get_lt h2) (fun z => h1.elim (hP i z).1 (hP i z).2)).trans h2
  refine ⟨pa, fa, ha, pf, gf, hf, ff, hb, keep _ _ (Or.inl hb.1) h0, keep _ _ (Or.inl hb.2.1) h1, h2, fun q x y z hq hz => ?_, keep _ _ (Or.inl hb.2.2.1) h4, fun q hq => ?_, h6, keep _ _ (Or.inr hb.2.2.2.1) h7, h8, fun q hq => ?_⟩
  · obtain ⟨r, r1, r2, r4⟩ := h3 q x y z hq hz
    exact ⟨r, r1, r2, keep _ _ (Or.inr r2) r4⟩
  · obtain ⟨r1, r2, r4⟩ := h5 q hq
    exact ⟨r1, r2, keep _ _ (Or.inl r2) r4⟩
  · obtain ⟨r, x, y, r1, r2, r4, r5⟩ := h9 q hq
    exact ⟨r, x, y, r1, r2, keep _ _ (Or.inr r2) r4, r5⟩
theorem sh_mono {w : pW} {O Q O2 Q2 : Nat → Prop} {a : Nat} {X : Sh} (h : shAt w O Q a X) (hO : ∀ i : Nat, i < w.length → O i → O2 i) (hQ : ∀ i : Nat, i < w.length → Q i → Q2 i) : shAt w O2 Q2 a X := by
  obtain ⟨pa, fa, ha, pf, gf, hf, ff, hb, h0, h1, h2, h3, h4, h5, h6, h7, h8, h9⟩ := h
  refine ⟨pa, fa, ha, pf, gf, hf, ff, ⟨hO _ (get_lt h0) hb.1, hO _ (get_lt h1) hb.2.1, hO _ (get_lt h4) hb.2.2.1, hQ _ (get_lt h7) hb.2.2.2.1, hb.2.2.2.2⟩, h0, h1, h2, fun q x y z hq hz => ?_, h4, fun q hq => ?_, h6, h7, h8, fun q hq => ?_⟩
  · obtain ⟨r, r1, r2, r4⟩ := h3 q x y z hq hz
    exact ⟨r, r1, hQ _ (get_lt r4) r2, r4⟩
  · obtain ⟨r1, r2, r4⟩ := h5 q hq
    exact ⟨r1, hO _ (get_lt r4) r2, r4⟩
  · obtain ⟨r, x, y, r1, r2, r4, r5⟩ := h9 q hq
    exact ⟨r, x, y, r1, hQ _ (get_lt r4) r2, r4, r5⟩
/-- twice the area, as the law reckons it -/
def sd2 (x1 y1 x2 y2 x y : Int) : Int := (x2 - x1) * (y - y1) - (y2 - y1) * (x - x1)
theorem sd2_b {x1 y1 x2 y2 x y : Int} (h1 : inSq x1 y1) (h2 : inSq x2 y2) (h3 : inSq x y) : -8000000 ≤ sd2 x1 y1 x2 y2 x y ∧ sd2 x1 y1 x2 y2 x y ≤ 8000000 := by
  unfold sd2
  have a := mul_b (x := x2 - x1) (y := y - y1) (a := 2000) (b := 2000) (by omega) (by omega) (by omega) (by omega)
  have b := mul_b (x := y2 - y1) (y := x - x1) (a := 2000) (b := 2000) (by omega) (by omega) (by omega) (by omega)
  omega
theorem w_side {w : pW} {u : Nat} {x1 y1 z1 : Int} (hu : rowI w u 3 (row3 x1 y1 z1)) {v : Nat} {x2 y2 z2 : Int} (hv : rowI w v 3 (row3 x2 y2 z2)) {x y : Int} : pRun 146 [.ref u, .ref v, .int (iI x), .int (iI y)] w (some (.int (iI (sd2 x1 y1 x2 y2 x y)))) w := by
  refine qx_run ?_
  refine pc_run (lv := [(0, .ref u), (1, .ref v), (2, .int (iI x)), (3, .int (iI y))]) rfl ?_
  refine pe_go (pc := 0) rfl (s_aload_n rfl) ?_
  refine pe_go (pc := 1) rfl (s_iconst (z := 0) rfl) ?_
  refine pe_go (pc := 2) rfl (s_iald (n := 3) (f := row3 x2 y2 z2) (v := x2) hv (k := 0) (by omega) (by omega) (by decide) rfl) ?_
  refine pe_go (pc := 3) rfl (s_aload_n rfl) ?_
  refine pe_go (pc := 4) rfl (s_iconst (z := 0) rfl) ?_
  refine pe_go (pc := 5) rfl (s_iald (n := 3) (f := row3 x1 y1 z1) (v := x1) hu (k := 0) (by omega) (by omega) (by decide) rfl) ?_
  refine pe_go (pc := 6) rfl s_isub ?_
  refine pe_go (pc := 7) rfl (s_iload_n rfl) ?_
  refine pe_go (pc := 8) rfl (s_aload_n rfl) ?_
  refine pe_go (pc := 9) rfl (s_iconst (z := 1) rfl) ?_
  refine pe_go (pc := 10) rfl (s_iald (n := 3) (f := row3 x1 y1 z1) (v := y1) hu (k := 1) (by omega) (by omega) (by decide) rfl) ?_
  refine pe_go (pc := 11) rfl s_isub ?_
  refine pe_go (pc := 12) rfl s_imul ?_
  refine pe_go (pc := 13) rfl (s_aload_n rfl) ?_
  refine pe_go (pc := 14) rfl (s_iconst (z := 1) rfl) ?_
  refine pe_go (pc := 15) rfl (s_iald (n := 3) (f := row3 x2 y2 z2) (v := y2) hv (k := 1) (by omega) (by omega) (by decide) rfl) ?_
  refine pe_go (pc := 16) rfl (s_aload_n rfl) ?_
  refine pe_go (pc := 17) rfl (s_iconst (z := 1) rfl) ?_
  refine pe_go (pc := 18) rfl (s_iald (n := 3) (f := row3 x1 y1 z1) (v := y1) hu (k := 1) (by omega) (by omega) (by decide) rfl) ?_
  refine pe_go (pc := 19) rfl s_isub ?_
  refine pe_go (pc := 20) rfl (s_iload_n rfl) ?_
  refine pe_go (pc := 21) rfl (s_aload_n rfl) ?_
  refine pe_go (pc := 22) rfl (s_iconst (z := 0) rfl) ?_
  refine pe_go (pc := 23) rfl (s_iald (n := 3) (f := row3 x1 y1 z1) (v := x1) hu (k := 0) (by omega) (by omega) (by decide) rfl) ?_
  refine pe_go (pc := 24) rfl s_isub ?_
  refine pe_go (pc := 25) rfl s_imul ?_
  refine pe_go (pc := 26) rfl s_isub ?_
  exact pe_ret rfl s_reti ⟨rfl, rfl⟩
theorem w_sign {w : pW} {u : Nat} {x1 y1 z1 : Int} (hu : rowI w u 3 (row3 x1 y1 z1)) {v : Nat} {x2 y2 z2 : Int} (hv : rowI w v 3 (row3 x2 y2 z2)) {q : Nat} {x3 y3 z3 : Int} (hq : rowI w q 3 (row3 x3 y3 z3)) (i1 : inSq x1 y1) (i2 : inSq x2 y2) (i3 : inSq x3 y3) : pRun 147 [.ref u, .ref v, .ref q] w (some (.int (iI (zsg (sd2 x1 y1 x2 y2 x3 y3))))) w := by
  refine qx_run ?_
  refine pc_run (lv := [(0, .ref u), (1, .ref v), (2, .ref q)]) rfl ?_
  refine pe_go (pc := 0) rfl (s_aload_n rfl) ?_
  refine pe_go (pc := 1) rfl (s_aload_n rfl) ?_
  refine pe_go (pc := 2) rfl (s_aload_n rfl) ?_
  refine pe_go (pc := 3) rfl (s_iconst (z := 0) rfl) ?_
  refine pe_go (pc := 4) rfl (s_iald (n := 3) (f := row3 x3 y3 z3) (v := x3) hq (k := 0) (by omega) (by omega) (by decide) rfl) ?_
  refine pe_go (pc := 5) rfl (s_aload_n rfl) ?_
  refine pe_go (pc := 6) rfl (s_iconst (z := 1) rfl) ?_
  refine pe_go (pc := 7) rfl (s_iald (n := 3) (f := row3 x3 y3 z3) (v := y3) hq (k := 1) (by omega) (by omega) (by decide) rfl) ?_
  refine pe_call rfl (s_invS rfl rfl rfl) (w_side hu hv (x := x3) (y := y3)) ?_
  refine pe_call rfl (s_invS rfl rfl rfl) (c_signum (z := sd2 x1 y1 x2 y2 x3 y3) (by have := sd2_b i1 i2 i3; exact ⟨by omega, by omega⟩) (by have := sd2_b i1 i2 i3; omega) _) ?_
  exact pe_ret rfl s_reti ⟨rfl, rfl⟩
theorem zsg_b (z : Int) : -1 ≤ zsg z ∧ zsg z ≤ 1 := by unfold zsg; (repeat' split) <;> omega
theorem zsg_mul {a b : Int} : zsg a * zsg b < 0 ↔ opp a b := by
  unfold zsg opp
  (repeat' split) <;> constructor <;> intro h <;> omega
/-- the two lines cross between all ends, as the law asks it -/
abbrev crs2 (x1 y1 x2 y2 x3 y3 x4 y4 : Int) : Prop := opp (sd2 x1 y1 x2 y2 x3 y3) (sd2 x1 y1 x2 y2 x4 y4) ∧ opp (sd2 x3 y3 x4 y4 x1 y1) (sd2 x3 y3 x4 y4 x2 y2)
theorem zsg_sm (a b : Int) : sm (zsg a * zsg b) := by
  have h1 := zsg_b a
  have h2 := zsg_b b
  have := mul_b (x := zsg a) (y := zsg b) (a := 1) (b := 1) (by omega) (by omega) (by omega) (by omega)
  exact ⟨by omega, by omega⟩
theorem w_crosses {w : pW} {u : Nat} {x1 y1 z1 : Int} (hu : rowI w u 3 (row3 x1 y1 z1)) {v : Nat} {x2 y2 z2 : Int} (hv : rowI w v 3 (row3 x2 y2 z2)) {q : Nat} {x3 y3 z3 : Int} (hq : rowI w q 3 (row3 x3 y3 z3)) {t : Nat} {x4 y4 z4 : Int} (ht : rowI w t 3 (row3 x4 y4 z4)) (i1 : inSq x1 y1) (i2 : inSq x2 y2) (i3 : inSq x3 y3) (i4 : inSq x4 y4) : pRun 148 [.ref u, .ref v, .ref q, .ref t] w (some (.int (bI (decide (crs2 x1 y1 x2 y2 x3 y3 x4 y4))))) w := by
  refine qx_run ?_
  refine pc_run (lv := [(0, .ref u), (1, .ref v), (2, .ref q), (3, .ref t)]) rfl ?_
  refine pe_go (pc := 0) rfl (s_aload_n rfl) ?_
  refine pe_go (pc := 1) rfl (s_aload_n rfl) ?_
  refine pe_go (pc := 2) rfl (s_aload_n rfl) ?_
  refine pe_call rfl (s_invS rfl rfl rfl) (w_sign hu hv hq i1 i2 i3) ?_
  refine pe_go (pc := 6) rfl (s_aload_n rfl) ?_
  refine pe_go (pc := 7) rfl (s_aload_n rfl) ?_
  refine pe_go (pc := 8) rfl (s_aload_n rfl) ?_
  refine pe_call rfl (s_invS rfl rfl rfl) (w_sign hu hv ht i1 i2 i4) ?_
  refine pe_go (pc := 12) rfl s_imul ?_
  by_cases c1 : 0 ≤ ((zsg (sd2 x1 y1 x2 y2 x3 y3)) * (zsg (sd2 x1 y1 x2 y2 x4 y4)))
  · skip
    refine pe_go rfl (s_if_ge_t (zsg_sm _ _) c1) ?_
    refine pe_go (pc := 36) rfl (s_iconst (z := 0) rfl) ?_
    exact pe_ret rfl s_ret0 ⟨by rw [decide_eq_false (show ¬ (crs2 x1 y1 x2 y2 x3 y3 x4 y4) from fun z => by have z1 := zsg_mul.mpr z.1; have z2 := zsg_mul.mpr z.2; omega)], rfl⟩
  · skip
    refine pe_go rfl (s_if_ge_f (zsg_sm _ _) c1) ?_
    refine pe_go (pc := 16) rfl (s_aload_n rfl) ?_
    refine pe_go (pc := 17) rfl (s_aload_n rfl) ?_
    refine pe_go (pc := 18) rfl (s_aload_n rfl) ?_
    refine pe_call rfl (s_invS rfl rfl rfl) (w_sign hq ht hu i3 i4 i1) ?_
    refine pe_go (pc := 22) rfl (s_aload_n rfl) ?_
    refine pe_go (pc := 23) rfl (s_aload_n rfl) ?_
    refine pe_go (pc := 24) rfl (s_aload_n rfl) ?_
    refine pe_call rfl (s_invS rfl rfl rfl) (w_sign hq ht hv i3 i4 i2) ?_
    refine pe_go (pc := 28) rfl s_imul ?_
    by_cases c2 : 0 ≤ ((zsg (sd2 x3 y3 x4 y4 x1 y1)) * (zsg (sd2 x3 y3 x4 y4 x2 y2)))
    · skip
      refine pe_go rfl (s_if_ge_t (zsg_sm _ _) c2) ?_
      refine pe_go (pc := 36) rfl (s_iconst (z := 0) rfl) ?_
      exact pe_ret rfl s_ret0 ⟨by rw [decide_eq_false (show ¬ (crs2 x1 y1 x2 y2 x3 y3 x4 y4) from fun z => by have z1 := zsg_mul.mpr z.1; have z2 := zsg_mul.mpr z.2; omega)], rfl⟩
    · skip
      refine pe_go rfl (s_if_ge_f (zsg_sm _ _) c2) ?_
      refine pe_go (pc := 32) rfl (s_iconst (z := 1) rfl) ?_
      refine pe_go (pc := 33) rfl s_goto ?_
      exact pe_ret rfl s_ret1 ⟨by rw [decide_eq_true (show crs2 x1 y1 x2 y2 x3 y3 x4 y4 from ⟨zsg_mul.mp (by omega), zsg_mul.mp (by omega)⟩)], rfl⟩
theorem w_ahead {w : pW} {u : Nat} {x1 y1 z1 : Int} (hu : rowI w u 3 (row3 x1 y1 z1)) {v : Nat} {x2 y2 z2 : Int} (hv : rowI w v 3 (row3 x2 y2 z2)) (i1 : inSq x1 y1) (i2 : inSq x2 y2) : pRun 150 [.ref u, .ref v] w (some (.int (bI (decide (x1 < x2 ∨ (x1 = x2 ∧ y1 < y2)))))) w := by
  refine qx_run ?_
  refine pc_run (lv := [(0, .ref u), (1, .ref v)]) rfl ?_
  refine pe_go (pc := 0) rfl (s_aload_n rfl) ?_
  refine pe_go (pc := 1) rfl (s_iconst (z := 0) rfl) ?_
  refine pe_go (pc := 2) rfl (s_iald (n := 3) (f := row3 x1 y1 z1) (v := x1) hu (k := 0) (by omega) (by omega) (by decide) rfl) ?_
  refine pe_go (pc := 3) rfl (s_aload_n rfl) ?_
  refine pe_go (pc := 4) rfl (s_iconst (z := 0) rfl) ?_
  refine pe_go (pc := 5) rfl (s_iald (n := 3) (f := row3 x2 y2 z2) (v := x2) hv (k := 0) (by omega) (by omega) (by decide) rfl) ?_
  by_cases c1 : x1 < x2
  · skip
    refine pe_go rfl (s_icmp_lt_t ⟨by omega, by omega⟩ ⟨by omega, by omega⟩ c1) ?_
    refine pe_go (pc := 27) rfl (s_iconst (z := 1) rfl) ?_
    refine pe_go (pc := 28) rfl s_goto ?_
    exact pe_ret rfl s_ret1 ⟨by rw [decide_eq_true (show x1 < x2 ∨ (x1 = x2 ∧ y1 < y2) by omega)], rfl⟩
  · skip
    refine pe_go rfl (s_icmp_lt_f ⟨by omega, by omega⟩ ⟨by omega, by omega⟩ c1) ?_
    refine pe_go (pc := 9) rfl (s_aload_n rfl) ?_
    refine pe_go (pc := 10) rfl (s_iconst (z := 0) rfl) ?_
    refine pe_go (pc := 11) rfl (s_iald (n := 3) (f := row3 x1 y1 z1) (v := x1) hu (k := 0) (by omega) (by omega) (by decide) rfl) ?_
    refine pe_go (pc := 12) rfl (s_aload_n rfl) ?_
    refine pe_go (pc := 13) rfl (s_iconst (z := 0) rfl) ?_
    refine pe_go (pc := 14) rfl (s_iald (n := 3) (f := row3 x2 y2 z2) (v := x2) hv (k := 0) (by omega) (by omega) (by decide) rfl) ?_
    by_cases c2 : x1 = x2
    · skip
      refine pe_go rfl (s_icmp_ne_f ⟨by omega, by omega⟩ ⟨by omega, by omega⟩ (fun e => e c2)) ?_
      refine pe_go (pc := 18) rfl (s_aload_n rfl) ?_
      refine pe_go (pc := 19) rfl (s_iconst (z := 1) rfl) ?_
      refine pe_go (pc := 20) rfl (s_iald (n := 3) (f := row3 x1 y1 z1) (v := y1) hu (k := 1) (by omega) (by omega) (by decide) rfl) ?_
      refine pe_go (pc := 21) rfl (s_aload_n rfl) ?_
      refine pe_go (pc := 22) rfl (s_iconst (z := 1) rfl) ?_
      refine pe_go (pc := 23) rfl (s_iald (n := 3) (f := row3 x2 y2 z2) (v := y2) hv (k := 1) (by omega) (by omega) (by decide) rfl) ?_
      by_cases c3 : y2 ≤ y1
      · skip
        refine pe_go rfl (s_icmp_ge_t ⟨by omega, by omega⟩ ⟨by omega, by omega⟩ c3) ?_
        refine pe_go (pc := 31) rfl (s_iconst (z := 0) rfl) ?_
        exact pe_ret rfl s_ret0 ⟨by rw [decide_eq_false (show ¬ (x1 < x2 ∨ (x1 = x2 ∧ y1 < y2)) by omega)], rfl⟩
      · skip
        refine pe_go rfl (s_icmp_ge_f ⟨by omega, by omega⟩ ⟨by omega, by omega⟩ c3) ?_
        refine pe_go (pc := 27) rfl (s_iconst (z := 1) rfl) ?_
        refine pe_go (pc := 28) rfl s_goto ?_
        exact pe_ret rfl s_ret1 ⟨by rw [decide_eq_true (show x1 < x2 ∨ (x1 = x2 ∧ y1 < y2) by omega)], rfl⟩
    · skip
      refine pe_go rfl (s_icmp_ne_t ⟨by omega, by omega⟩ ⟨by omega, by omega⟩ c2) ?_
      refine pe_go (pc := 31) rfl (s_iconst (z := 0) rfl) ?_
      exact pe_ret rfl s_ret0 ⟨by rw [decide_eq_false (show ¬ (x1 < x2 ∨ (x1 = x2 ∧ y1 < y2)) by omega)], rfl⟩
/-- the place lies between the ends, as the law asks it -/
abbrev btw2 (x1 y1 x2 y2 x y : Int) : Prop := sd2 x1 y1 x2 y2 x y = 0 ∧ (zmin x1 x2 ≤ x ∧ x ≤ zmax x1 x2 ∧ zmin y1 y2 ≤ y ∧ y ≤ zmax y1 y2) ∧ (x ≠ x1 ∨ y ≠ y1) ∧ (x ≠ x2 ∨ y ≠ y2)
theorem zmm (x y : Int) : (zmin x y = x ∨ zmin x y = y) ∧ (zmax x y = x ∨ zmax x y = y) := by
  unfold zmin zmax
  constructor <;> split <;> simp
theorem w_between {w : pW} {O Q : Nat → Prop} {a : Nat} {X : Sh} (hS : shAt w O Q a X) {p q : Nat} (hp : p < 40) (hq : q < 40) {x1 y1 z1 x2 y2 z2 x y : Int} (k1 : X.1 p = some (x1, y1, z1)) (k2 : X.1 q = some (x2, y2, z2)) (i1 : inSq x1 y1) (i2 : inSq x2 y2) (i3 : inSq x y) : pRun 128 [.ref a, .int (iI (p : Int)), .int (iI (q : Int)), .int (iI x), .int (iI y)] w (some (.int (bI (decide (btw2 x1 y1 x2 y2 x y))))) w := by
  refine qx_run ?_
  obtain ⟨pa, fa, ha, pf, gf, hf, ff, hb, h0, h1, h2, h3, h4, h5, h6, h7, h8, h9⟩ := hS
  obtain ⟨u, e1, -, hu⟩ := h3 p x1 y1 z1 hp k1
  obtain ⟨v, e2, -, hv⟩ := h3 q x2 y2 z2 hq k2
  have hmx := zmm x1 x2
  have hmy := zmm y1 y2
  refine pc_run (lv := [(0, .ref a), (1, .int (iI (p : Int))), (2, .int (iI (q : Int))), (3, .int (iI x)), (4, .int (iI y))]) rfl ?_
  refine pe_go (pc := 0) rfl (s_aload_n rfl) ?_
  refine pe_go (pc := 1) rfl (s_getf (v := .ref pa) h0 rfl) ?_
  refine pe_go (pc := 4) rfl (s_iload_n rfl) ?_
  refine pe_go (pc := 5) rfl (s_aald h1 (k := p) (by omega) (by omega) e1) ?_
  refine pe_go (pc := 6) rfl (s_astore (lv' := [(5, .ref u), (0, .ref a), (1, .int (iI (p : Int))), (2, .int (iI (q : Int))), (3, .int (iI x)), (4, .int (iI y))]) rfl) ?_
  refine pe_go (pc := 8) rfl (s_aload_n rfl) ?_
  refine pe_go (pc := 9) rfl (s_getf (v := .ref pa) h0 rfl) ?_
  refine pe_go (pc := 12) rfl (s_iload_n rfl) ?_
  refine pe_go (pc := 13) rfl (s_aald h1 (k := q) (by omega) (by omega) e2) ?_
  refine pe_go (pc := 14) rfl (s_astore (lv' := [(6, .ref v), (5, .ref u), (0, .ref a), (1, .int (iI (p : Int))), (2, .int (iI (q : Int))), (3, .int (iI x)), (4, .int (iI y))]) rfl) ?_
  refine pe_go (pc := 16) rfl (s_aload rfl) ?_
  refine pe_go (pc := 18) rfl (s_aload rfl) ?_
  refine pe_go (pc := 20) rfl (s_iload_n rfl) ?_
  refine pe_go (pc := 21) rfl (s_iload rfl) ?_
  refine pe_call rfl (s_invN rfl rfl rfl) (w_side hu hv (x := x) (y := y)) ?_
  by_cases c1 : (sd2 x1 y1 x2 y2 x y) = 0
  · skip
    refine pe_go rfl (s_if_eq_t (by have := sd2_b i1 i2 i3; exact ⟨by omega, by omega⟩) c1) ?_
    refine pe_go (pc := 31) rfl (s_iload_n rfl) ?_
    refine pe_go (pc := 32) rfl (s_aload rfl) ?_
    refine pe_go (pc := 34) rfl (s_iconst (z := 0) rfl) ?_
    refine pe_go (pc := 35) rfl (s_iald (n := 3) (f := row3 x1 y1 z1) (v := x1) hu (k := 0) (by omega) (by omega) (by decide) rfl) ?_
    refine pe_go (pc := 36) rfl (s_aload rfl) ?_
    refine pe_go (pc := 38) rfl (s_iconst (z := 0) rfl) ?_
    refine pe_go (pc := 39) rfl (s_iald (n := 3) (f := row3 x2 y2 z2) (v := x2) hv (k := 0) (by omega) (by omega) (by decide) rfl) ?_
    refine pe_call rfl (s_invS rfl rfl rfl) (c_min (x := x1) (y := x2) ⟨by omega, by omega⟩ ⟨by omega, by omega⟩) ?_
    by_cases c2 : x < (zmin x1 x2)
    · skip
      refine pe_go rfl (s_icmp_lt_t ⟨by omega, by omega⟩ ⟨by omega, by omega⟩ c2) ?_
      refine pe_go (pc := 97) rfl (s_iconst (z := 0) rfl) ?_
      refine pe_go (pc := 98) rfl (s_istore (lv' := [(7, .int (iI 0)), (6, .ref v), (5, .ref u), (0, .ref a), (1, .int (iI (p : Int))), (2, .int (iI (q : Int))), (3, .int (iI x)), (4, .int (iI y))]) rfl) ?_
      refine pe_go (pc := 100) rfl (s_iload rfl) ?_
      refine pe_go rfl (s_if_eq_t ⟨by decide, by decide⟩ (by decide)) ?_
      refine pe_go (pc := 143) rfl (s_iconst (z := 0) rfl) ?_
      exact pe_ret rfl s_ret0 ⟨by rw [decide_eq_false (show ¬ btw2 x1 y1 x2 y2 x y from fun ⟨z1, ⟨z2, z3, z4, z5⟩, z6, z7⟩ => by omega)], rfl⟩
    · skip
      refine pe_go rfl (s_icmp_lt_f ⟨by omega, by omega⟩ ⟨by omega, by omega⟩ c2) ?_
      refine pe_go (pc := 46) rfl (s_iload_n rfl) ?_
      refine pe_go (pc := 47) rfl (s_aload rfl) ?_
      refine pe_go (pc := 49) rfl (s_iconst (z := 0) rfl) ?_
      refine pe_go (pc := 50) rfl (s_iald (n := 3) (f := row3 x1 y1 z1) (v := x1) hu (k := 0) (by omega) (by omega) (by decide) rfl) ?_
      refine pe_go (pc := 51) rfl (s_aload rfl) ?_
      refine pe_go (pc := 53) rfl (s_iconst (z := 0) rfl) ?_
      refine pe_go (pc := 54) rfl (s_iald (n := 3) (f := row3 x2 y2 z2) (v := x2) hv (k := 0) (by omega) (by omega) (by decide) rfl) ?_
      refine pe_call rfl (s_invS rfl rfl rfl) (c_max (x := x1) (y := x2) ⟨by omega, by omega⟩ ⟨by omega, by omega⟩) ?_
      by_cases c3 : (zmax x1 x2) < x
      · skip
        refine pe_go rfl (s_icmp_gt_t ⟨by omega, by omega⟩ ⟨by omega, by omega⟩ c3) ?_
        refine pe_go (pc := 97) rfl (s_iconst (z := 0) rfl) ?_
        refine pe_go (pc := 98) rfl (s_istore (lv' := [(7, .int (iI 0)), (6, .ref v), (5, .ref u), (0, .ref a), (1, .int (iI (p : Int))), (2, .int (iI (q : Int))), (3, .int (iI x)), (4, .int (iI y))]) rfl) ?_
        refine pe_go (pc := 100) rfl (s_iload rfl) ?_
        refine pe_go rfl (s_if_eq_t ⟨by decide, by decide⟩ (by decide)) ?_
        refine pe_go (pc := 143) rfl (s_iconst (z := 0) rfl) ?_
        exact pe_ret rfl s_ret0 ⟨by rw [decide_eq_false (show ¬ btw2 x1 y1 x2 y2 x y from fun ⟨z1, ⟨z2, z3, z4, z5⟩, z6, z7⟩ => by omega)], rfl⟩
      · skip
        refine pe_go rfl (s_icmp_gt_f ⟨by omega, by omega⟩ ⟨by omega, by omega⟩ c3) ?_
        refine pe_go (pc := 61) rfl (s_iload rfl) ?_
        refine pe_go (pc := 63) rfl (s_aload rfl) ?_
        refine pe_go (pc := 65) rfl (s_iconst (z := 1) rfl) ?_
        refine pe_go (pc := 66) rfl (s_iald (n := 3) (f := row3 x1 y1 z1) (v := y1) hu (k := 1) (by omega) (by omega) (by decide) rfl) ?_
        refine pe_go (pc := 67) rfl (s_aload rfl) ?_
        refine pe_go (pc := 69) rfl (s_iconst (z := 1) rfl) ?_
        refine pe_go (pc := 70) rfl (s_iald (n := 3) (f := row3 x2 y2 z2) (v := y2) hv (k := 1) (by omega) (by omega) (by decide) rfl) ?_
        refine pe_call rfl (s_invS rfl rfl rfl) (c_min (x := y1) (y := y2) ⟨by omega, by omega⟩ ⟨by omega, by omega⟩) ?_
        by_cases c4 : y < (zmin y1 y2)
        · skip
          refine pe_go rfl (s_icmp_lt_t ⟨by omega, by omega⟩ ⟨by omega, by omega⟩ c4) ?_
          refine pe_go (pc := 97) rfl (s_iconst (z := 0) rfl) ?_
          refine pe_go (pc := 98) rfl (s_istore (lv' := [(7, .int (iI 0)), (6, .ref v), (5, .ref u), (0, .ref a), (1, .int (iI (p : Int))), (2, .int (iI (q : Int))), (3, .int (iI x)), (4, .int (iI y))]) rfl) ?_
          refine pe_go (pc := 100) rfl (s_iload rfl) ?_
          refine pe_go rfl (s_if_eq_t ⟨by decide, by decide⟩ (by decide)) ?_
          refine pe_go (pc := 143) rfl (s_iconst (z := 0) rfl) ?_
          exact pe_ret rfl s_ret0 ⟨by rw [decide_eq_false (show ¬ btw2 x1 y1 x2 y2 x y from fun ⟨z1, ⟨z2, z3, z4, z5⟩, z6, z7⟩ => by omega)], rfl⟩
        · skip
          refine pe_go rfl (s_icmp_lt_f ⟨by omega, by omega⟩ ⟨by omega, by omega⟩ c4) ?_
          refine pe_go (pc := 77) rfl (s_iload rfl) ?_
          refine pe_go (pc := 79) rfl (s_aload rfl) ?_
          refine pe_go (pc := 81) rfl (s_iconst (z := 1) rfl) ?_
          refine pe_go (pc := 82) rfl (s_iald (n := 3) (f := row3 x1 y1 z1) (v := y1) hu (k := 1) (by omega) (by omega) (by decide) rfl) ?_
          refine pe_go (pc := 83) rfl (s_aload rfl) ?_
          refine pe_go (pc := 85) rfl (s_iconst (z := 1) rfl) ?_
          refine pe_go (pc := 86) rfl (s_iald (n := 3) (f := row3 x2 y2 z2) (v := y2) hv (k := 1) (by omega) (by omega) (by decide) rfl) ?_
          refine pe_call rfl (s_invS rfl rfl rfl) (c_max (x := y1) (y := y2) ⟨by omega, by omega⟩ ⟨by omega, by omega⟩) ?_
          by_cases c5 : (zmax y1 y2) < y
          · skip
            refine pe_go rfl (s_icmp_gt_t ⟨by omega, by omega⟩ ⟨by omega, by omega⟩ c5) ?_
            refine pe_go (pc := 97) rfl (s_iconst (z := 0) rfl) ?_
            refine pe_go (pc := 98) rfl (s_istore (lv' := [(7, .int (iI 0)), (6, .ref v), (5, .ref u), (0, .ref a), (1, .int (iI (p : Int))), (2, .int (iI (q : Int))), (3, .int (iI x)), (4, .int (iI y))]) rfl) ?_
            refine pe_go (pc := 100) rfl (s_iload rfl) ?_
            refine pe_go rfl (s_if_eq_t ⟨by decide, by decide⟩ (by decide)) ?_
            refine pe_go (pc := 143) rfl (s_iconst (z := 0) rfl) ?_
            exact pe_ret rfl s_ret0 ⟨by rw [decide_eq_false (show ¬ btw2 x1 y1 x2 y2 x y from fun ⟨z1, ⟨z2, z3, z4, z5⟩, z6, z7⟩ => by omega)], rfl⟩
          · skip
            refine pe_go rfl (s_icmp_gt_f ⟨by omega, by omega⟩ ⟨by omega, by omega⟩ c5) ?_
            refine pe_go (pc := 93) rfl (s_iconst (z := 1) rfl) ?_
            refine pe_go (pc := 94) rfl s_goto ?_
            refine pe_go (pc := 98) rfl (s_istore (lv' := [(7, .int (iI 1)), (6, .ref v), (5, .ref u), (0, .ref a), (1, .int (iI (p : Int))), (2, .int (iI (q : Int))), (3, .int (iI x)), (4, .int (iI y))]) rfl) ?_
            refine pe_go (pc := 100) rfl (s_iload rfl) ?_
            refine pe_go rfl (s_if_eq_f ⟨by decide, by decide⟩ (by decide)) ?_
            refine pe_go (pc := 105) rfl (s_iload_n rfl) ?_
            refine pe_go (pc := 106) rfl (s_aload rfl) ?_
            refine pe_go (pc := 108) rfl (s_iconst (z := 0) rfl) ?_
            refine pe_go (pc := 109) rfl (s_iald (n := 3) (f := row3 x1 y1 z1) (v := x1) hu (k := 0) (by omega) (by omega) (by decide) rfl) ?_
            by_cases c6 : x = x1
            · skip
              refine pe_go rfl (s_icmp_ne_f ⟨by omega, by omega⟩ ⟨by omega, by omega⟩ (fun e => e c6)) ?_
              refine pe_go (pc := 113) rfl (s_iload rfl) ?_
              refine pe_go (pc := 115) rfl (s_aload rfl) ?_
              refine pe_go (pc := 117) rfl (s_iconst (z := 1) rfl) ?_
              refine pe_go (pc := 118) rfl (s_iald (n := 3) (f := row3 x1 y1 z1) (v := y1) hu (k := 1) (by omega) (by omega) (by decide) rfl) ?_
              by_cases c7 : y = y1
              · skip
                refine pe_go rfl (s_icmp_eq_t ⟨by omega, by omega⟩ ⟨by omega, by omega⟩ c7) ?_
                refine pe_go (pc := 143) rfl (s_iconst (z := 0) rfl) ?_
                exact pe_ret rfl s_ret0 ⟨by rw [decide_eq_false (show ¬ btw2 x1 y1 x2 y2 x y from fun ⟨z1, ⟨z2, z3, z4, z5⟩, z6, z7⟩ => by omega)], rfl⟩
              · skip
                refine pe_go rfl (s_icmp_eq_f ⟨by omega, by omega⟩ ⟨by omega, by omega⟩ c7) ?_
                refine pe_go (pc := 122) rfl (s_iload_n rfl) ?_
                refine pe_go (pc := 123) rfl (s_aload rfl) ?_
                refine pe_go (pc := 125) rfl (s_iconst (z := 0) rfl) ?_
                refine pe_go (pc := 126) rfl (s_iald (n := 3) (f := row3 x2 y2 z2) (v := x2) hv (k := 0) (by omega) (by omega) (by decide) rfl) ?_
                by_cases c8 : x = x2
                · skip
                  refine pe_go rfl (s_icmp_ne_f ⟨by omega, by omega⟩ ⟨by omega, by omega⟩ (fun e => e c8)) ?_
                  refine pe_go (pc := 130) rfl (s_iload rfl) ?_
                  refine pe_go (pc := 132) rfl (s_aload rfl) ?_
                  refine pe_go (pc := 134) rfl (s_iconst (z := 1) rfl) ?_
                  refine pe_go (pc := 135) rfl (s_iald (n := 3) (f := row3 x2 y2 z2) (v := y2) hv (k := 1) (by omega) (by omega) (by decide) rfl) ?_
                  by_cases c9 : y = y2
                  · skip
                    refine pe_go rfl (s_icmp_eq_t ⟨by omega, by omega⟩ ⟨by omega, by omega⟩ c9) ?_
                    refine pe_go (pc := 143) rfl (s_iconst (z := 0) rfl) ?_
                    exact pe_ret rfl s_ret0 ⟨by rw [decide_eq_false (show ¬ btw2 x1 y1 x2 y2 x y from fun ⟨z1, ⟨z2, z3, z4, z5⟩, z6, z7⟩ => by omega)], rfl⟩
                  · skip
                    refine pe_go rfl (s_icmp_eq_f ⟨by omega, by omega⟩ ⟨by omega, by omega⟩ c9) ?_
                    refine pe_go (pc := 139) rfl (s_iconst (z := 1) rfl) ?_
                    refine pe_go (pc := 140) rfl s_goto ?_
                    exact pe_ret rfl s_ret1 ⟨by rw [decide_eq_true (show btw2 x1 y1 x2 y2 x y from ⟨by omega, ⟨by omega, by omega, by omega, by omega⟩, by omega, by omega⟩)], rfl⟩
                · skip
                  refine pe_go rfl (s_icmp_ne_t ⟨by omega, by omega⟩ ⟨by omega, by omega⟩ c8) ?_
                  refine pe_go (pc := 139) rfl (s_iconst (z := 1) rfl) ?_
                  refine pe_go (pc := 140) rfl s_goto ?_
                  exact pe_ret rfl s_ret1 ⟨by rw [decide_eq_true (show btw2 x1 y1 x2 y2 x y from ⟨by omega, ⟨by omega, by omega, by omega, by omega⟩, by omega, by omega⟩)], rfl⟩
            · skip
              refine pe_go rfl (s_icmp_ne_t ⟨by omega, by omega⟩ ⟨by omega, by omega⟩ c6) ?_
              refine pe_go (pc := 122) rfl (s_iload_n rfl) ?_
              refine pe_go (pc := 123) rfl (s_aload rfl) ?_
              refine pe_go (pc := 125) rfl (s_iconst (z := 0) rfl) ?_
              refine pe_go (pc := 126) rfl (s_iald (n := 3) (f := row3 x2 y2 z2) (v := x2) hv (k := 0) (by omega) (by omega) (by decide) rfl) ?_
              by_cases c10 : x = x2
              · skip
                refine pe_go rfl (s_icmp_ne_f ⟨by omega, by omega⟩ ⟨by omega, by omega⟩ (fun e => e c10)) ?_
                refine pe_go (pc := 130) rfl (s_iload rfl) ?_
                refine pe_go (pc := 132) rfl (s_aload rfl) ?_
                refine pe_go (pc := 134) rfl (s_iconst (z := 1) rfl) ?_
                refine pe_go (pc := 135) rfl (s_iald (n := 3) (f := row3 x2 y2 z2) (v := y2) hv (k := 1) (by omega) (by omega) (by decide) rfl) ?_
                by_cases c11 : y = y2
                · skip
                  refine pe_go rfl (s_icmp_eq_t ⟨by omega, by omega⟩ ⟨by omega, by omega⟩ c11) ?_
                  refine pe_go (pc := 143) rfl (s_iconst (z := 0) rfl) ?_
                  exact pe_ret rfl s_ret0 ⟨by rw [decide_eq_false (show ¬ btw2 x1 y1 x2 y2 x y from fun ⟨z1, ⟨z2, z3, z4, z5⟩, z6, z7⟩ => by omega)], rfl⟩
                · skip
                  refine pe_go rfl (s_icmp_eq_f ⟨by omega, by omega⟩ ⟨by omega, by omega⟩ c11) ?_
                  refine pe_go (pc := 139) rfl (s_iconst (z := 1) rfl) ?_
                  refine pe_go (pc := 140) rfl s_goto ?_
                  exact pe_ret rfl s_ret1 ⟨by rw [decide_eq_true (show btw2 x1 y1 x2 y2 x y from ⟨by omega, ⟨by omega, by omega, by omega, by omega⟩, by omega, by omega⟩)], rfl⟩
              · skip
                refine pe_go rfl (s_icmp_ne_t ⟨by omega, by omega⟩ ⟨by omega, by omega⟩ c10) ?_
                refine pe_go (pc := 139) rfl (s_iconst (z := 1) rfl) ?_
                refine pe_go (pc := 140) rfl s_goto ?_
                exact pe_ret rfl s_ret1 ⟨by rw [decide_eq_true (show btw2 x1 y1 x2 y2 x y from ⟨by omega, ⟨by omega, by omega, by omega, by omega⟩, by omega, by omega⟩)], rfl⟩
  · skip
    refine pe_go rfl (s_if_eq_f (by have := sd2_b i1 i2 i3; exact ⟨by omega, by omega⟩) c1) ?_
    refine pe_go (pc := 29) rfl (s_iconst (z := 0) rfl) ?_
    exact pe_ret rfl s_ret0 ⟨by rw [decide_eq_false (show ¬ btw2 x1 y1 x2 y2 x y from fun ⟨z1, ⟨z2, z3, z4, z5⟩, z6, z7⟩ => by omega)], rfl⟩
