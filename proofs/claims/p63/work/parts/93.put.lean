/-! THE LAW'S SHEETS: what changes them. By hand, rows laid by program (wip/p63/wk.py, hw.py, mk93.py). -/
def ckd : pCell → Nat
  | .inl q => q.1
  | .inr _ => 100
def cln : pCell → Nat
  | .inl q => q.2.1
  | .inr _ => 0
theorem ne_kd {w : pW} {a b : Nat} {c d : pCell} (h1 : w[a]? = some c) (h2 : w[b]? = some d) (h : ckd c ≠ ckd d) : a ≠ b := fun e => by
  subst e
  rw [h1] at h2
  cases h2
  exact h rfl
theorem ne_ln {w : pW} {a b : Nat} {c d : pCell} (h1 : w[a]? = some c) (h2 : w[b]? = some d) (h : cln c ≠ cln d) : a ≠ b := fun e => by
  subst e
  rw [h1] at h2
  cases h2
  exact h rfl
theorem set_at {w : pW} {a : Nat} {c c' : pCell} (h : w[a]? = some c) : (w.set a c')[a]? = some c' := by
  rw [List.getElem?_set_self (get_lt h)]
theorem set_keep {w : pW} {a i : Nat} {c c' : pCell} (h : w[i]? = some c) (hne : i ≠ a) : (w.set a c')[i]? = some c := by
  rw [List.getElem?_set_ne (fun z => hne z.symm)]
  exact h
theorem agr_set {P : Nat → Prop} {w : pW} {a : Nat} {c : pCell} (h : P a) : agr P w (w.set a c) := ⟨by rw [List.length_set]; exact Nat.le_refl _, fun i _ hi => List.getElem?_set_ne (fun z => hi (by rw [← z]; exact h))⟩
theorem agr_app {P : Nat → Prop} {w l : pW} : agr P w (w ++ l) := ⟨by rw [List.length_append]; omega, fun i hi _ => List.getElem?_append_left hi⟩
theorem app_keep {w l : pW} {i : Nat} {c : pCell} (h : w[i]? = some c) : (w ++ l)[i]? = some c := by
  rw [List.getElem?_append_left (get_lt h)]
  exact h
theorem app_new {w : pW} {c : pCell} : (w ++ [c])[w.length]? = some c := by
  rw [List.getElem?_append_right (Nat.le_refl _), Nat.sub_self]
  rfl
/-- no more than so many cells and slots were made -/
def gro (n m : Nat) (w w' : pW) : Prop := w'.length ≤ w.length + n ∧ pwsz w' ≤ pwsz w + m
theorem gro_0 (w : pW) : gro 0 0 w w := ⟨Nat.le_refl _, Nat.le_refl _⟩
theorem gro_set {w : pW} {a : Nat} {c c' : pCell} (h : w[a]? = some c) (hs : pcsz c' = pcsz c) : gro 0 0 w (w.set a c') := ⟨by rw [List.length_set]; omega, by rw [pwsz_set h hs]; omega⟩
theorem gro_app (w : pW) (c : pCell) : gro 1 (pcsz c) w (w ++ [c]) := ⟨by simp, by rw [pwsz_app]; omega⟩
theorem gro_trans {n m n' m' : Nat} {w w1 w2 : pW} (h : gro n m w w1) (k : gro n' m' w1 w2) : gro (n + n') (m + m') w w2 := ⟨by have := h.1; have := k.1; omega, by have := h.2; have := k.2; omega⟩
theorem gro_mono {n m n' m' : Nat} {w w1 : pW} (h : gro n m w w1) (h1 : n ≤ n') (h2 : m ≤ m') : gro n' m' w w1 := ⟨by have := h.1; omega, by have := h.2; omega⟩
abbrev cR (n : Nat) (f : Nat → Int) : pCell := .inl (0, n, .inl (fun j => iI (f j)))
def Sh.uF (X : Sh) (p : Nat) (g : Nat → Int) : Sh := (X.1, fun i => if i = p then g else X.2.1 i, X.2.2.1, X.2.2.2)
def Sh.uP (X : Sh) (p : Nat) (t : Option (Int × Int × Int)) : Sh := (fun i => if i = p then t else X.1 i, X.2.1, X.2.2.1, X.2.2.2)
def Sh.uG (X : Sh) (g : Int) : Sh := (X.1, X.2.1, X.2.2.1, g)
theorem sh_row {w : pW} {O Q : Nat → Prop} {a : Nat} {X : Sh} {pa fa ha : Nat} {pf gf hf : Nat → Option Nat} {ff : Nat → Nat} (h : shP w O Q a X pa fa ha pf gf hf ff) {p : Nat} (hp : p < 40) (g : Nat → Int) : shP (w.set (ff p) (cR 40 g)) O Q a (X.uF p g) pa fa ha pf gf hf ff := by
  obtain ⟨hb, h0, h1, h2, h3, h4, h5, h6, h7, h8, h9⟩ := h
  obtain ⟨e1, e2, e3⟩ := h5 p hp
  refine ⟨hb, set_keep h0 (ne_kd h0 e3 (show (100 : Nat) ≠ 0 by decide)), set_keep h1 (ne_kd h1 e3 (show (3 : Nat) ≠ 0 by decide)), h2, fun k x y z hk hX => ?_, set_keep h4 (ne_kd h4 e3 (show (3 : Nat) ≠ 0 by decide)), fun k hk => ?_, h6, set_keep h7 (ne_kd h7 e3 (show (3 : Nat) ≠ 0 by decide)), h8, fun k hk => ?_⟩
  · obtain ⟨r, r1, r2, r3⟩ := h3 k x y z hk hX
    exact ⟨r, r1, r2, set_keep r3 (ne_ln r3 e3 (show (3 : Nat) ≠ 40 by decide))⟩
  · obtain ⟨r1, r2, r3⟩ := h5 k hk
    refine ⟨r1, r2, ?_⟩
    by_cases c : k = p
    · subst c
      show (w.set (ff k) (cR 40 g))[ff k]? = some (cR 40 (if k = k then g else X.2.1 k))
      rw [if_pos rfl]
      exact set_at r3
    · show (w.set (ff p) (cR 40 g))[ff k]? = some (cR 40 (if k = p then g else X.2.1 k))
      rw [if_neg c]
      exact set_keep r3 (fun z => c (h6 k p hk hp z))
  · obtain ⟨r, x, y, r1, r2, r3, r4⟩ := h9 k hk
    exact ⟨r, x, y, r1, r2, set_keep r3 (ne_ln r3 e3 (show (2 : Nat) ≠ 40 by decide)), r4⟩
theorem sh_g {w : pW} {O Q : Nat → Prop} {a : Nat} {X : Sh} {pa fa ha : Nat} {pf gf hf : Nat → Option Nat} {ff : Nat → Nat} (h : shP w O Q a X pa fa ha pf gf hf ff) (g : Int) : shP (w.set a (.inr (9, [.ref pa, .ref fa, .ref ha, .int (iI g)]))) O Q a (X.uG g) pa fa ha pf gf hf ff := by
  obtain ⟨hb, h0, h1, h2, h3, h4, h5, h6, h7, h8, h9⟩ := h
  have kk : ∀ (i : Nat) (k n : Nat) (f : (Nat → Int32) ⊕ (Nat → Int64) ⊕ (Nat → UInt32) ⊕ (Nat → UInt64) ⊕ (Nat → Option Nat)), k < 100 → w[i]? = some (.inl (k, n, f)) → (w.set a (.inr (9, [.ref pa, .ref fa, .ref ha, .int (iI g)])))[i]? = some (.inl (k, n, f)) := fun i k n f hk hi => set_keep hi (ne_kd hi h0 (show k ≠ 100 by omega))
  exact ⟨hb, set_at h0, kk _ _ _ _ (by decide) h1, h2, fun k x y z hk hX => by
      obtain ⟨r, r1, r2, r3⟩ := h3 k x y z hk hX
      exact ⟨r, r1, r2, kk _ _ _ _ (by decide) r3⟩, kk _ _ _ _ (by decide) h4, fun k hk => by
      obtain ⟨r1, r2, r3⟩ := h5 k hk
      exact ⟨r1, r2, kk _ _ _ _ (by decide) r3⟩, h6, kk _ _ _ _ (by decide) h7, h8, fun k hk => by
      obtain ⟨r, x, y, r1, r2, r3, r4⟩ := h9 k hk
      exact ⟨r, x, y, r1, r2, kk _ _ _ _ (by decide) r3, r4⟩⟩
theorem sh_app {w : pW} {O Q : Nat → Prop} {a : Nat} {X : Sh} {pa fa ha : Nat} {pf gf hf : Nat → Option Nat} {ff : Nat → Nat} (h : shP w O Q a X pa fa ha pf gf hf ff) (l : pW) : shP (w ++ l) O Q a X pa fa ha pf gf hf ff := by
  obtain ⟨hb, h0, h1, h2, h3, h4, h5, h6, h7, h8, h9⟩ := h
  exact ⟨hb, app_keep h0, app_keep h1, h2, fun k x y z hk hX => by
      obtain ⟨r, r1, r2, r3⟩ := h3 k x y z hk hX
      exact ⟨r, r1, r2, app_keep r3⟩, app_keep h4, fun k hk => by
      obtain ⟨r1, r2, r3⟩ := h5 k hk
      exact ⟨r1, r2, app_keep r3⟩, h6, app_keep h7, h8, fun k hk => by
      obtain ⟨r, x, y, r1, r2, r3, r4⟩ := h9 k hk
      exact ⟨r, x, y, r1, r2, app_keep r3, r4⟩⟩
theorem vaU_at {f : Nat → Option Nat} {k : Nat} {v : Option Nat} : va_up f k v k = v := if_pos rfl
theorem vaU_ne {f : Nat → Option Nat} {j k : Nat} {v : Option Nat} (h : j ≠ k) : va_up f k v j = f j := if_neg h
/-- point k told, its row at r -/
theorem sh_pt {w : pW} {O Q : Nat → Prop} {a : Nat} {X : Sh} {pa fa ha : Nat} {pf gf hf : Nat → Option Nat} {ff : Nat → Nat} (h : shP w O Q a X pa fa ha pf gf hf ff) {p r : Nat} {x y z : Int} (hr : rowI w r 3 (row3 x y z)) (hQ : Q r) : shP (w.set pa (.inl (3, 40, rfs (va_up pf p (some r))))) O Q a (X.uP p (some (x, y, z))) pa fa ha (va_up pf p (some r)) gf hf ff := by
  obtain ⟨hb, h0, h1, h2, h3, h4, h5, h6, h7, h8, h9⟩ := h
  have ne0 : ∀ (i n : Nat) (f : (Nat → Int32) ⊕ (Nat → Int64) ⊕ (Nat → UInt32) ⊕ (Nat → UInt64) ⊕ (Nat → Option Nat)), w[i]? = some (.inl (0, n, f)) → (w.set pa (.inl (3, 40, rfs (va_up pf p (some r)))))[i]? = some (.inl (0, n, f)) := fun i n f hi => set_keep hi (ne_kd hi h1 (show (0 : Nat) ≠ 3 by decide))
  have hne := hb.2.2.2.2
  refine ⟨hb, set_keep h0 (ne_kd h0 h1 (show (100 : Nat) ≠ 3 by decide)), set_at h1, fun k hk hX => ?_, fun k x' y' z' hk hX => ?_, set_keep h4 hne.1, fun k hk => ?_, h6, set_keep h7 hne.2.1, h8, fun k hk => ?_⟩
  · have hX' : (if k = p then some (x, y, z) else X.1 k) = none := hX
    by_cases c : k = p
    · rw [if_pos c] at hX'; cases hX'
    · rw [if_neg c] at hX'; rw [vaU_ne c]; exact h2 k hk hX'
  · have hX' : (if k = p then some (x, y, z) else X.1 k) = some (x', y', z') := hX
    by_cases c : k = p
    · rw [if_pos c] at hX'
      cases hX'
      exact ⟨r, by rw [c, vaU_at], hQ, ne0 _ _ _ hr⟩
    · rw [if_neg c] at hX'
      obtain ⟨r9, r1, r2, r3⟩ := h3 k x' y' z' hk hX'
      exact ⟨r9, by rw [vaU_ne c]; exact r1, r2, ne0 _ _ _ r3⟩
  · obtain ⟨r1, r2, r3⟩ := h5 k hk
    exact ⟨r1, r2, ne0 _ _ _ r3⟩
  · obtain ⟨r9, x', y', r1, r2, r3, r4⟩ := h9 k hk
    exact ⟨r9, x', y', r1, r2, ne0 _ _ _ r3, r4⟩
/-- a point taken out -/
theorem sh_no {w : pW} {O Q : Nat → Prop} {a : Nat} {X : Sh} {pa fa ha : Nat} {pf gf hf : Nat → Option Nat} {ff : Nat → Nat} (h : shP w O Q a X pa fa ha pf gf hf ff) (p : Nat) : shP (w.set pa (.inl (3, 40, rfs (va_up pf p none)))) O Q a (X.uP p none) pa fa ha (va_up pf p none) gf hf ff := by
  obtain ⟨hb, h0, h1, h2, h3, h4, h5, h6, h7, h8, h9⟩ := h
  have ne0 : ∀ (i n : Nat) (f : (Nat → Int32) ⊕ (Nat → Int64) ⊕ (Nat → UInt32) ⊕ (Nat → UInt64) ⊕ (Nat → Option Nat)), w[i]? = some (.inl (0, n, f)) → (w.set pa (.inl (3, 40, rfs (va_up pf p none))))[i]? = some (.inl (0, n, f)) := fun i n f hi => set_keep hi (ne_kd hi h1 (show (0 : Nat) ≠ 3 by decide))
  have hne := hb.2.2.2.2
  refine ⟨hb, set_keep h0 (ne_kd h0 h1 (show (100 : Nat) ≠ 3 by decide)), set_at h1, fun k hk hX => ?_, fun k x' y' z' hk hX => ?_, set_keep h4 hne.1, fun k hk => ?_, h6, set_keep h7 hne.2.1, h8, fun k hk => ?_⟩
  · have hX' : (if k = p then none else X.1 k) = none := hX
    by_cases c : k = p
    · rw [c, vaU_at]
    · rw [if_neg c] at hX'; rw [vaU_ne c]; exact h2 k hk hX'
  · have hX' : (if k = p then none else X.1 k) = some (x', y', z') := hX
    by_cases c : k = p
    · rw [if_pos c] at hX'; cases hX'
    · rw [if_neg c] at hX'
      obtain ⟨r9, r1, r2, r3⟩ := h3 k x' y' z' hk hX'
      exact ⟨r9, by rw [vaU_ne c]; exact r1, r2, ne0 _ _ _ r3⟩
  · obtain ⟨r1, r2, r3⟩ := h5 k hk
    exact ⟨r1, r2, ne0 _ _ _ r3⟩
  · obtain ⟨r9, x', y', r1, r2, r3, r4⟩ := h9 k hk
    exact ⟨r9, x', y', r1, r2, ne0 _ _ _ r3, r4⟩
/-! rows of what is made and of references that are put -/
theorem s_newI {pc n : Nat} {t : ArrayType} {lv : pLv} {st : List Value} {w : pW} {z : Int} (hz : z = (n : Int)) (hn : n ≤ 60000000) : pS1 (.newarray t) pc [0] lv (.int (iI z) :: st) w = some (.inl (pc + 2, lv, .ref w.length :: st, w ++ [cR n (fun _ => 0)])) := by
  show pNewA (pc + 2) [0] lv (.int (iI z) :: st) w = _
  unfold pNewA
  simp only [iI_nn hz (by omega), iI_idx hz (by omega), Nat.ble_eq_true_of_le hn]
  rfl
theorem s_newL {pc n : Nat} {t : ArrayType} {lv : pLv} {st : List Value} {w : pW} {z : Int} (hz : z = (n : Int)) (hn : n ≤ 60000000) : pS1 (.newarray t) pc [1] lv (.int (iI z) :: st) w = some (.inl (pc + 2, lv, .ref w.length :: st, w ++ [.inl (1, n, .inr (.inl (fun _ => 0)))])) := by
  show pNewA (pc + 2) [1] lv (.int (iI z) :: st) w = _
  unfold pNewA
  simp only [iI_nn hz (by omega), iI_idx hz (by omega), Nat.ble_eq_true_of_le hn]
  rfl
theorem s_newR {pc n k e : Nat} {ix : Nat} {lv : pLv} {st : List Value} {w : pW} {z : Int} (hz : z = (n : Int)) (hn : n ≤ 60000000) : pS1 (.anewarray ix) pc [k, e] lv (.int (iI z) :: st) w = some (.inl (pc + 3, lv, .ref w.length :: st, w ++ [.inl (k, n, rfs (fun _ => none))])) := by
  show pANew (pc + 3) [k, e] lv (.int (iI z) :: st) w = _
  unfold pANew
  simp only [iI_nn hz (by omega), iI_idx hz (by omega), Nat.ble_eq_true_of_le hn]
  rfl
theorem s_aast {pc a n k r kd : Nat} {lv : pLv} {st : List Value} {w : pW} {z : Int} {f : Nat → Option Nat} {w' : pW} (hw : w[a]? = some (.inl (kd, n, rfs f))) (hh : pHolds kd w[r]? = true) (hz : z = (k : Int)) (hk : k < n ∧ n < 2147483648) (hs : w.set a (.inl (kd, n, rfs (va_up f k (some r)))) = w') : pS1 .aastore pc [] lv (.ref r :: .int (iI z) :: .ref a :: st) w = some (.inl (pc + 1, lv, st, w')) := by
  show pAStA (pc + 1) lv (.ref r :: .int (iI z) :: .ref a :: st) w = _
  unfold pAStA
  simp only [hw, hh, iI_in hz hk.1 (Nat.le_of_lt hk.2), iI_idx hz (by omega), hs]
  rfl
theorem s_aastN {pc a n k kd : Nat} {lv : pLv} {st : List Value} {w : pW} {z : Int} {f : Nat → Option Nat} {w' : pW} (hw : w[a]? = some (.inl (kd + 3, n, rfs f))) (hz : z = (k : Int)) (hk : k < n ∧ n < 2147483648 ∧ kd ≤ 2) (hs : w.set a (.inl (kd + 3, n, rfs (va_up f k none))) = w') : pS1 .aastore pc [] lv (.null :: .int (iI z) :: .ref a :: st) w = some (.inl (pc + 1, lv, st, w')) := by
  show pAStA (pc + 1) lv (.null :: .int (iI z) :: .ref a :: st) w = _
  unfold pAStA
  simp only [hw, iI_in hz hk.1 (Nat.le_of_lt hk.2.1), iI_idx hz (by omega), hs, Nat.ble_eq_true_of_le (show 3 ≤ kd + 3 by omega), Nat.ble_eq_true_of_le (show kd + 3 ≤ 5 by omega)]
  rfl
theorem holds_row {w : pW} {r n : Nat} {f : (Nat → Int32) ⊕ (Nat → Int64) ⊕ (Nat → UInt32) ⊕ (Nat → UInt64) ⊕ (Nat → Option Nat)} (h : w[r]? = some (.inl (0, n, f))) : pHolds 3 w[r]? = true := by
  rw [h]
  rfl
/-! fixes, draw -/
def own (O : Nat → Prop) (w w' : pW) : Prop := agr O w w' ∧ gro 0 0 w w'
theorem own_trans {O : Nat → Prop} {w w1 w2 : pW} (h : own O w w1) (k : own O w1 w2) : own O w w2 := ⟨agr_trans h.1 k.1 (fun _ z => z), gro_trans h.2 k.2⟩
theorem own_row {w : pW} {O Q : Nat → Prop} {a : Nat} {X : Sh} {pa fa ha : Nat} {pf gf hf : Nat → Option Nat} {ff : Nat → Nat} (h : shP w O Q a X pa fa ha pf gf hf ff) {p : Nat} (hp : p < 40) (g : Nat → Int) : own O w (w.set (ff p) (cR 40 g)) := by
  obtain ⟨hb, h0, h1, h2, h3, h4, h5, -⟩ := h
  obtain ⟨e1, e2, e3⟩ := h5 p hp
  exact ⟨agr_set e2, gro_set e3 rfl⟩
def Sh.fixes (X : Sh) (p q : Nat) (how : Int) : Sh := (X.uF p (uZ (X.2.1 p) q how)).uF q (uZ ((X.uF p (uZ (X.2.1 p) q how)).2.1 q) p how)
theorem w_fixes {w : pW} {O Q : Nat → Prop} {a : Nat} {X : Sh} (hS : shAt w O Q a X) {p q : Nat} (hp : p < 40) (hq : q < 40) (how : Int) : qC 125 [.ref a, .int (iI (p : Int)), .int (iI (q : Int)), .int (iI how)] w (fun r w' => r = none ∧ shAt w' O Q a (X.fixes p q how) ∧ own O w w') := by
  obtain ⟨pa, fa, ha, pf, gf, hf, ff, hP⟩ := hS
  have hP1 := sh_row hP hp (uZ (X.2.1 p) q how)
  have hP2 := sh_row hP1 hq (uZ ((X.uF p (uZ (X.2.1 p) q how)).2.1 q) p how)
  have o1 := own_row hP hp (uZ (X.2.1 p) q how)
  have o2 := own_row hP1 hq (uZ ((X.uF p (uZ (X.2.1 p) q how)).2.1 q) p how)
  obtain ⟨hb, h0, h1, h2, h3, h4, h5, h6, h7, h8, h9⟩ := hP
  obtain ⟨hb', k0, k1, k2, k3, k4, k5, k6, k7, k8, k9⟩ := hP1
  obtain ⟨e1, -, e3⟩ := h5 p hp
  obtain ⟨d1, -, d3⟩ := k5 q hq
  refine pc_run (lv := [(0, .ref a), (1, .int (iI (p : Int))), (2, .int (iI (q : Int))), (3, .int (iI how))]) rfl ?_
  refine pe_go (pc := 0) rfl (s_aload_n rfl) ?_
  refine pe_go (pc := 1) rfl (s_getf (v := .ref fa) h0 rfl) ?_
  refine pe_go (pc := 4) rfl (s_iload_n rfl) ?_
  refine pe_go (pc := 5) rfl (s_aald (kd := 0) h4 rfl ⟨hp, by decide, by decide⟩ e1) ?_
  refine pe_go (pc := 6) rfl (s_iload_n rfl) ?_
  refine pe_go (pc := 7) rfl (s_iload_n rfl) ?_
  refine pe_go (pc := 8) rfl (s_iast (f := X.2.1 p) e3 rfl hq (by decide) rfl) ?_
  refine pe_go (pc := 9) rfl (s_aload_n rfl) ?_
  refine pe_go (pc := 10) rfl (s_getf (v := .ref fa) k0 rfl) ?_
  refine pe_go (pc := 13) rfl (s_iload_n rfl) ?_
  refine pe_go (pc := 14) rfl (s_aald (kd := 0) k4 rfl ⟨hq, by decide, by decide⟩ d1) ?_
  refine pe_go (pc := 15) rfl (s_iload_n rfl) ?_
  refine pe_go (pc := 16) rfl (s_iload_n rfl) ?_
  refine pe_go (pc := 17) rfl (s_iast (f := (X.uF p (uZ (X.2.1 p) q how)).2.1 q) d3 rfl hp (by decide) rfl) ?_
  exact pe_ret rfl s_retv ⟨rfl, ⟨pa, fa, ha, pf, gf, hf, ff, hP2⟩, own_trans o1 o2⟩
theorem w_draw {w : pW} {O Q : Nat → Prop} {a : Nat} {X : Sh} (hS : shAt w O Q a X) (hg : 0 ≤ X.2.2.2 ∧ X.2.2.2 < 30047) {v : Int} (hv : 1 ≤ v) (hv2 : v ≤ 1000) : qC 133 [.ref a, .int (iI v)] w (fun r w' => r = some (.int (iI (dvl X.2.2.2 v))) ∧ shAt w' O Q a (X.uG (dnx X.2.2.2)) ∧ own O w w') := by
  obtain ⟨pa, fa, ha, pf, gf, hf, ff, hP⟩ := hS
  have hP1 := sh_g hP (dnx X.2.2.2)
  have o1 : own O w (w.set a (.inr (9, [.ref pa, .ref fa, .ref ha, .int (iI (dnx X.2.2.2))]))) := ⟨agr_set hP.1.1, gro_set hP.2.1 rfl⟩
  have hd := dnx_b X.2.2.2
  have hdv := dvl_b (g := X.2.2.2) hv
  obtain ⟨hb, h0, -⟩ := hP
  obtain ⟨hb', k0, k1, -⟩ := id hP1
  refine pc_run (lv := [(0, .ref a), (1, .int (iI v))]) rfl ?_
  refine pe_go (pc := 0) rfl (s_aload_n rfl) ?_
  refine pe_go (pc := 1) rfl (s_sipush (z := 827) rfl) ?_
  refine pe_go (pc := 4) rfl (s_aload_n rfl) ?_
  refine pe_go (pc := 5) rfl (s_getf (v := .int (iI X.2.2.2)) h0 rfl) ?_
  refine pe_go (pc := 8) rfl s_imul ?_
  refine pe_go (pc := 9) rfl (s_sipush (z := 641) rfl) ?_
  refine pe_go (pc := 12) rfl s_iadd ?_
  refine pe_go (pc := 13) rfl (s_sipush (z := 30047) rfl) ?_
  refine pe_go (pc := 16) rfl (s_irem (z := dnx X.2.2.2) ⟨by omega, by omega⟩ ⟨by decide, by decide⟩ (by decide) (by omega) (by rw [Int.tmod_eq_emod_of_nonneg (by omega)]; unfold dnx; rw [Int.mul_comm])) ?_
  refine pe_go (pc := 17) rfl (s_putf (w' := w.set a (.inr (9, [.ref pa, .ref fa, .ref ha, .int (iI (dnx X.2.2.2))]))) h0 (Nat.le_of_ble_eq_true rfl) rfl rfl) ?_
  refine pe_go (pc := 20) rfl (s_aload_n rfl) ?_
  refine pe_go (pc := 21) rfl (s_getf (v := .int (iI (dnx X.2.2.2))) k0 rfl) ?_
  refine pe_go (pc := 24) rfl (s_iconst (z := 2) rfl) ?_
  refine pe_go (pc := 25) rfl (s_iload_n rfl) ?_
  refine pe_go (pc := 26) rfl s_imul ?_
  refine pe_go (pc := 27) rfl (s_iconst (z := 1) rfl) ?_
  refine pe_go (pc := 28) rfl s_iadd ?_
  refine pe_go (pc := 29) rfl (s_irem (z := dnx X.2.2.2 % (2 * v + 1)) ⟨by omega, by omega⟩ ⟨by omega, by omega⟩ (by omega) (by omega) (Int.tmod_eq_emod_of_nonneg (by omega))) ?_
  refine pe_go (pc := 30) rfl (s_iload_n rfl) ?_
  refine pe_go (pc := 31) rfl s_isub ?_
  exact pe_ret rfl s_reti ⟨rfl, ⟨pa, fa, ha, pf, gf, hf, ff, hP1⟩, o1⟩
