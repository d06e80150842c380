/-! THE LAW'S SHEETS: a copy. By hand. -/
theorem s_newO {pc ci n e : Nat} {ix : Nat} {lv : pLv} {st : List Value} {w : pW} : pS1 (.new ix) pc [ci, n, e] lv st w = some (.inl (pc + 3, lv, .ref w.length :: st, w ++ [.inr (ci, (List.range n).map (fun j => defaultValue (pTf ci j)))])) := rfl
theorem sheet_new : (List.range 4).map (fun j => defaultValue (pTf 9 j)) = [.null, .null, .null, .int 0] := rfl
theorem s_clone {pc a n e1 e2 e3 e4 e5 : Nat} {ix : Nat} {lv : pLv} {st : List Value} {w : pW} {f : Nat → Int} (hw : w[a]? = some (cR n f)) (h8 : Nat.ble (pCat st) 8 = true) : pS1 (.invokevirtual ix) pc [9, e1, e2, e3, e4, e5] lv (.ref a :: st) w = some (.inl (pc + 3, lv, .ref w.length :: st, w ++ [cR n f])) := by
  show pClone pc lv (.ref a :: st) w = _
  unfold pClone
  simp only [hw, h8]
  rfl
theorem s_cast {pc a : Nat} {ix : Nat} {dt : List Nat} {lv : pLv} {st : List Value} {w : pW} {n : Nat} {f : Nat → Int} (hw : w[a]? = some (cR n f)) : pS1 (.checkcast ix) pc dt lv (.ref a :: st) w = some (.inl (pc + 3, lv, .ref a :: st, w)) := by
  show pCast (pc + 3) lv (.ref a :: st) w = _
  unfold pCast
  simp only [hw]
  rfl
/-- the row of what is fixed at p, another in its place -/
theorem sh_fr {w : pW} {O Q : Nat → Prop} {a : Nat} {X : Sh} {pa fa ha : Nat} {pf gf hf : Nat → Option Nat} {ff : Nat → Nat} (h : shP w O Q a X pa fa ha pf gf hf ff) {p r : Nat} {g : Nat → Int} (hr : rowI w r 40 g) (hO : O r) (hne : ∀ j : Nat, j < 40 → ff j ≠ r) : shP (w.set fa (.inl (3, 40, rfs (va_up gf p (some r))))) O Q a (X.uF p g) pa fa ha pf (va_up gf p (some r)) hf (fun j => if j = p then r else ff j) := by
  obtain ⟨hb, h0, h1, h2, h3, h4, h5, h6, h7, h8, h9⟩ := h
  have ne0 : ∀ (i n : Nat) (f : (Nat → Int32) ⊕ (Nat → Int64) ⊕ (Nat → UInt32) ⊕ (Nat → UInt64) ⊕ (Nat → Option Nat)), w[i]? = some (.inl (0, n, f)) → (w.set fa (.inl (3, 40, rfs (va_up gf p (some r)))))[i]? = some (.inl (0, n, f)) := fun i n f hi => set_keep hi (ne_kd hi h4 (show (0 : Nat) ≠ 3 by decide))
  have hd := hb.2.2.2.2
  refine ⟨hb, set_keep h0 (ne_kd h0 h4 (show (100 : Nat) ≠ 3 by decide)), set_keep h1 (fun z => hd.1 z.symm), h2, fun k x y z hk hX => ?_, set_at h4, fun k hk => ?_, fun j k hj hk e => ?_, set_keep h7 hd.2.2, h8, fun k hk => ?_⟩
  · obtain ⟨r9, r1, r2, r3⟩ := h3 k x y z hk hX
    exact ⟨r9, r1, r2, ne0 _ _ _ r3⟩
  · show va_up gf p (some r) k = some (if k = p then r else ff k) ∧ O (if k = p then r else ff k) ∧ rowI _ (if k = p then r else ff k) 40 (if k = p then g else X.2.1 k)
    by_cases c : k = p
    · rw [if_pos c, if_pos c, c, vaU_at]
      exact ⟨rfl, hO, ne0 _ _ _ hr⟩
    · rw [if_neg c, if_neg c, vaU_ne c]
      obtain ⟨r1, r2, r3⟩ := h5 k hk
      exact ⟨r1, r2, ne0 _ _ _ r3⟩
  · have e' : (if j = p then r else ff j) = (if k = p then r else ff k) := e
    by_cases c1 : j = p <;> by_cases c2 : k = p
    · omega
    · rw [if_pos c1, if_neg c2] at e'; exact absurd e'.symm (hne k hk)
    · rw [if_neg c1, if_pos c2] at e'; exact absurd e' (hne j hj)
    · rw [if_neg c1, if_neg c2] at e'; exact h6 j k hj hk e'
  · obtain ⟨r9, x', y', r1, r2, r3, r4⟩ := h9 k hk
    exact ⟨r9, x', y', r1, r2, ne0 _ _ _ r3, r4⟩
/-- the holes and G of another -/
theorem sh_end {w : pW} {O Q : Nat → Prop} {a : Nat} {X Y : Sh} {pa fa ha : Nat} {pf gf hf : Nat → Option Nat} {ff : Nat → Nat} (h : shP w O Q a X pa fa ha pf gf hf ff) {hb' : Nat} {hf' : Nat → Option Nat} (k1 : w[hb']? = some (.inl (3, Y.2.2.1, rfs hf'))) (k2 : Y.2.2.1 ≤ 8) (k3 : ∀ k : Nat, k < Y.2.2.1 → ∃ (r : Nat) (x y : Int), hf' k = some r ∧ Q r ∧ rowI w r 2 (row2 x y) ∧ inSq x y) (hQ : Q hb') (hne : hb' ≠ pa ∧ hb' ≠ fa) : shP (w.set a (.inr (9, [.ref pa, .ref fa, .ref hb', .int (iI Y.2.2.2)]))) O Q a (X.1, X.2.1, Y.2.2.1, Y.2.2.2) pa fa hb' pf gf hf' ff := by
  obtain ⟨hb, h0, h1, h2, h3, h4, h5, h6, h7, h8, h9⟩ := h
  have kk : ∀ (i : Nat) (k n : Nat) (f : (Nat → Int32) ⊕ (Nat → Int64) ⊕ (Nat → UInt32) ⊕ (Nat → UInt64) ⊕ (Nat → Option Nat)), k < 100 → w[i]? = some (.inl (k, n, f)) → (w.set a (.inr (9, [.ref pa, .ref fa, .ref hb', .int (iI Y.2.2.2)])))[i]? = some (.inl (k, n, f)) := fun i k n f hk hi => set_keep hi (ne_kd hi h0 (show k ≠ 100 by omega))
  exact ⟨⟨hb.1, hb.2.1, hb.2.2.1, hQ, hb.2.2.2.2.1, hne⟩, set_at h0, kk _ _ _ _ (by decide) h1, h2, fun k x y z hk hX => by
      obtain ⟨r, r1, r2, r3⟩ := h3 k x y z hk hX
      exact ⟨r, r1, r2, kk _ _ _ _ (by decide) r3⟩, kk _ _ _ _ (by decide) h4, fun k hk => by
      obtain ⟨r1, r2, r3⟩ := h5 k hk
      exact ⟨r1, r2, kk _ _ _ _ (by decide) r3⟩, h6, kk _ _ _ _ (by decide) k1, k2, fun k hk => by
      obtain ⟨r, x, y, r1, r2, r3, r4⟩ := k3 k hk
      exact ⟨r, x, y, r1, r2, kk _ _ _ _ (by decide) r3, r4⟩⟩
/-- the copy with its first k points and rows -/
def Sh.part (X Y : Sh) (k : Nat) : Sh := (fun i => if i < k then X.1 i else Y.1 i, fun i => if i < k then X.2.1 i else Y.2.1 i, Y.2.2.1, Y.2.2.2)
theorem Sh.part_0 (X Y : Sh) : X.part Y 0 = Y := by
  obtain ⟨a, b, c, d⟩ := Y
  have e1 : (fun i => if i < 0 then X.1 i else a i) = a := funext (fun i => if_neg (Nat.not_lt_zero i))
  have e2 : (fun i => if i < 0 then X.2.1 i else b i) = b := funext (fun i => if_neg (Nat.not_lt_zero i))
  unfold Sh.part
  rw [e1, e2]
theorem Sh.part_s (X Y : Sh) (k : Nat) : ((X.part Y k).uP k (X.1 k)).uF k (X.2.1 k) = X.part Y (k + 1) := by
  have e1 : (fun i => if i = k then X.1 k else (if i < k then X.1 i else Y.1 i)) = fun i => if i < k + 1 then X.1 i else Y.1 i := funext (fun i => by
    by_cases c : i = k
    · rw [if_pos c, c, if_pos (by omega)]
    · rw [if_neg c]
      by_cases c2 : i < k
      · rw [if_pos c2, if_pos (by omega)]
      · rw [if_neg c2, if_neg (by omega)])
  have e2 : (fun i => if i = k then X.2.1 k else (if i < k then X.2.1 i else Y.2.1 i)) = fun i => if i < k + 1 then X.2.1 i else Y.2.1 i := funext (fun i => by
    by_cases c : i = k
    · rw [if_pos c, c, if_pos (by omega)]
    · rw [if_neg c]
      by_cases c2 : i < k
      · rw [if_pos c2, if_pos (by omega)]
      · rw [if_neg c2, if_neg (by omega)])
  show ((fun i => if i = k then X.1 k else (if i < k then X.1 i else Y.1 i)), (fun i => if i = k then X.2.1 k else (if i < k then X.2.1 i else Y.2.1 i)), Y.2.2.1, Y.2.2.2) = _
  rw [e1, e2]
  rfl
theorem l_copy {O Q O2 Q2 : Nat → Prop} {a c n0 : Nat} {X Y : Sh} (hO2 : ∀ i : Nat, O2 i ↔ n0 ≤ i) (hQ2 : ∀ i : Nat, Q i ∧ i < n0 → Q2 i) (hQ3 : ∀ i : Nat, n0 ≤ i → Q2 i) (hlt : ∀ i : Nat, O i → i < n0) (hlt2 : ∀ i : Nat, Q i → i < n0) {Φ : Option Value → pW → Prop} : ∀ (d k : Nat) (w : pW), k + d = 40 → n0 ≤ w.length → shAt w O Q a X → shAt w O2 Q2 c (X.part Y k) → (∀ w' : pW, shAt w' O Q a X → shAt w' O2 Q2 c (X.part Y 40) → agr O2 w w' → gro d (40 * d) w w' → qE 124 (52, [(2, .int (iI (40 : Int))), (1, .ref c), (0, .ref a)], [], w') Φ) → qE 124 (10, [(2, .int (iI (k : Int))), (1, .ref c), (0, .ref a)], [], w) Φ := by
  intro d
  induction d with
  | zero =>
    intro k w hk hn hA hC K
    refine pe_go (pc := 10) rfl (s_iload_n rfl) ?_
    refine pe_go (pc := 11) rfl (s_bipush (z := 40) rfl) ?_
    refine pe_go (pc := 13) rfl (s_icmp_ge_t ⟨by omega, by omega⟩ ⟨by decide, by decide⟩ (by omega)) ?_
    have hk40 : k = 40 := by omega
    subst hk40
    exact K w hA hC (agr_refl _ _) (gro_0 w)
  | succ d ih =>
    intro k w hk hn hA hC K
    have hkk : k < 40 := by omega
    have hAA := hA
    obtain ⟨pa, fa, ha, pf, gf, hf, ff, hP⟩ := hA
    obtain ⟨pc9, fc, hc, qf, kf, lf, gg, hR⟩ := hC
    have hc9 : O2 pc9 ∧ O2 fc := ⟨hR.1.2.1, hR.1.2.2.1⟩
    -- the point's row, or none: a world with it put
    have stepP : ∃ (v : Value) (w1 : pW) (qf' : Nat → Option Nat), (pS1 .aaload 26 [] [(2, .int (iI (k : Int))), (1, .ref c), (0, .ref a)] (.int (iI (k : Int)) :: .ref pa :: [.int (iI (k : Int)), .ref pc9]) w = some (.inl (27, [(2, .int (iI (k : Int))), (1, .ref c), (0, .ref a)], [v, .int (iI (k : Int)), .ref pc9], w))) ∧ (pS1 .aastore 27 [] [(2, .int (iI (k : Int))), (1, .ref c), (0, .ref a)] [v, .int (iI (k : Int)), .ref pc9] w = some (.inl (28, [(2, .int (iI (k : Int))), (1, .ref c), (0, .ref a)], [], w1))) ∧ shP w1 O2 Q2 c ((X.part Y k).uP k (X.1 k)) pc9 fc hc qf' kf lf gg ∧ agr O2 w w1 ∧ gro 0 0 w w1 := by
      rcases e : X.1 k with _ | ⟨x, y, z⟩
      · have e1 := hP.2.2.2.1 k hkk e
        refine ⟨.null, w.set pc9 (.inl (3, 40, rfs (va_up qf k none))), va_up qf k none, s_aaldN (kd := 0) (k := k) hP.2.2.1 rfl ⟨hkk, by decide, by decide⟩ e1, s_aastN (kd := 0) (k := k) hR.2.2.1 rfl ⟨hkk, by decide, by decide⟩ rfl, sh_no hR k, agr_set hc9.1, gro_set hR.2.2.1 rfl⟩
      · obtain ⟨r, e1, e2, e3⟩ := hP.2.2.2.2.1 k x y z hkk e
        refine ⟨.ref r, w.set pc9 (.inl (3, 40, rfs (va_up qf k (some r)))), va_up qf k (some r), s_aald (kd := 0) (k := k) hP.2.2.1 rfl ⟨hkk, by decide, by decide⟩ e1, s_aast (kd := 3) (k := k) hR.2.2.1 (holds_row e3) rfl ⟨hkk, by decide⟩ rfl, sh_pt hR e3 (hQ2 r ⟨e2, hlt2 r e2⟩), agr_set hc9.1, gro_set hR.2.2.1 rfl⟩
    obtain ⟨v, w1, qf', t1, t2, hR1, g1, z1⟩ := stepP
    have hA1 : shAt w1 O Q a X := sh_agr hAA g1 (fun i hi => ⟨fun z => by have := hlt i z; have := (hO2 i).mp hi; omega, fun z => by have := hlt2 i z; have := (hO2 i).mp hi; omega⟩)
    obtain ⟨pa', fa', ha', pf', gf', hf', ff', hP'⟩ := hA1
    obtain ⟨e1, -, e3⟩ := hP'.2.2.2.2.2.2.1 k hkk
    have hR2 := sh_app hR1 [cR 40 (X.2.1 k)]
    have hnew : rowI (w1 ++ [cR 40 (X.2.1 k)]) w1.length 40 (X.2.1 k) := app_new
    have hw1n : n0 ≤ w1.length := Nat.le_trans hn g1.1
    have hR3 := sh_fr hR2 (p := k) hnew ((hO2 _).mpr hw1n) (fun j hj => by
      have := get_lt (hR1.2.2.2.2.2.2.1 j hj).2.2
      omega)
    have g3 : agr O2 w ((w1 ++ [cR 40 (X.2.1 k)]).set fc (.inl (3, 40, rfs (va_up kf k (some w1.length))))) := agr_trans (agr_more g1 _) (agr_set hc9.2) (fun _ z => z)
    have z3 : gro 1 40 w ((w1 ++ [cR 40 (X.2.1 k)]).set fc (.inl (3, 40, rfs (va_up kf k (some w1.length))))) := gro_put (c' := .inl (3, 40, rfs (va_up kf k (some w1.length)))) (gro_more z1 (cR 40 (X.2.1 k)) rfl rfl) hR2.2.2.2.2.2.1 rfl
    have hA3 : shAt ((w1 ++ [cR 40 (X.2.1 k)]).set fc (.inl (3, 40, rfs (va_up kf k (some w1.length))))) O Q a X := sh_agr hAA g3 (fun i hi => ⟨fun z => by have := hlt i z; have := (hO2 i).mp hi; omega, fun z => by have := hlt2 i z; have := (hO2 i).mp hi; omega⟩)
    have hC3 : shAt ((w1 ++ [cR 40 (X.2.1 k)]).set fc (.inl (3, 40, rfs (va_up kf k (some w1.length))))) O2 Q2 c (X.part Y (k + 1)) := ⟨pc9, fc, hc, qf', va_up kf k (some w1.length), lf, fun j => if j = k then w1.length else gg j, by rw [← Sh.part_s]; exact hR3⟩
    refine pe_go (pc := 10) rfl (s_iload_n rfl) ?_
    refine pe_go (pc := 11) rfl (s_bipush (z := 40) rfl) ?_
    refine pe_go (pc := 13) rfl (s_icmp_ge_f ⟨by omega, by omega⟩ ⟨by decide, by decide⟩ (by omega)) ?_
    refine pe_go (pc := 16) rfl (s_aload_n rfl) ?_
    refine pe_go (pc := 17) rfl (s_getf (v := .ref pc9) hR.2.1 rfl) ?_
    refine pe_go (pc := 20) rfl (s_iload_n rfl) ?_
    refine pe_go (pc := 21) rfl (s_aload_n rfl) ?_
    refine pe_go (pc := 22) rfl (s_getf (v := .ref pa) hP.2.1 rfl) ?_
    refine pe_go (pc := 25) rfl (s_iload_n rfl) ?_
    refine pe_go (pc := 26) rfl t1 ?_
    refine pe_go (pc := 27) rfl t2 ?_
    refine pe_go (pc := 28) rfl (s_aload_n rfl) ?_
    refine pe_go (pc := 29) rfl (s_getf (v := .ref fc) hR1.2.1 rfl) ?_
    refine pe_go (pc := 32) rfl (s_iload_n rfl) ?_
    refine pe_go (pc := 33) rfl (s_aload_n rfl) ?_
    refine pe_go (pc := 34) rfl (s_getf (v := .ref fa') hP'.2.1 rfl) ?_
    refine pe_go (pc := 37) rfl (s_iload_n rfl) ?_
    refine pe_go (pc := 38) rfl (s_aald (kd := 0) (k := k) hP'.2.2.2.2.2.1 rfl ⟨hkk, by decide, by decide⟩ e1) ?_
    refine pe_go (pc := 39) rfl (s_clone e3 rfl) ?_
    refine pe_go (pc := 42) rfl (s_cast hnew) ?_
    refine pe_go (pc := 45) rfl (s_aast (kd := 3) (k := k) hR2.2.2.2.2.2.1 (holds_row hnew) rfl ⟨hkk, by decide⟩ rfl) ?_
    refine pe_go (pc := 46) rfl (s_iinc (x := (k : Int)) (y := ((k + 1 : Nat) : Int)) rfl (by omega) (lv' := [(2, .int (iI ((k + 1 : Nat) : Int))), (1, .ref c), (0, .ref a)]) rfl) ?_
    refine pe_go (pc := 49) rfl s_goto ?_
    refine ih (k + 1) _ (by omega) (Nat.le_trans hn g3.1) hA3 hC3 (fun w' s1 s2 s3 s4 => K w' s1 s2 (agr_trans g3 s3 (fun _ z => z)) (gro_mono (gro_trans z3 s4) (by omega) (by omega)))
theorem w_copy {O Q : Nat → Prop} {a : Nat} {X : Sh} {w : pW} (hS : shAt w O Q a X) : qC 124 [.ref a] w (fun r w' => ∃ c : Nat, r = some (.ref c) ∧ w.length ≤ c ∧ shAt w' (fun i => w.length ≤ i) (fun i => Q i ∨ w.length ≤ i) c X ∧ agr (fun i => w.length ≤ i) w w' ∧ gro 89 3300 w w') := by
  have hA : shAt w (fun i => O i ∧ i < w.length) (fun i => Q i ∧ i < w.length) a X := sh_mono hS (fun i h z => ⟨z, h⟩) (fun i h z => ⟨z, h⟩)
  have hobj : (w ++ [.inr (9, [.null, .null, .null, .int 0])])[w.length]? = some (.inr (9, [.null, .null, .null, .int 0])) := app_new
  have hlen : (w ++ [(.inr (9, [.null, .null, .null, .int 0]) : pCell)]).length = w.length + 1 := by rw [List.length_append]; rfl
  refine pc_run (lv := [(0, .ref a)]) rfl ?_
  refine pe_go (pc := 0) rfl s_newO ?_
  rw [sheet_new]
  refine pe_go (pc := 3) rfl (s_dup rfl) ?_
  refine pe_callE rfl (s_invI rfl hobj rfl rfl) (w_init hlen hobj) ?_
  rintro _ w1 ⟨rfl, hC1, g1, z1⟩
  have g1' : agr (fun i => w.length ≤ i) w w1 := agr_mono (agr_trans (agr_app (P := fun i => i = w.length)) g1 (fun _ z => z)) (fun i e => by have e : i = w.length := e; omega)
  have z1' : gro 49 1700 w w1 := gro_mono (gro_trans (gro_app w (.inr (9, [.null, .null, .null, .int 0]))) z1) (by decide) (by decide)
  have hA1 : shAt w1 (fun i => O i ∧ i < w.length) (fun i => Q i ∧ i < w.length) a X := sh_agr hA g1' (fun i hi => ⟨fun z => by have := z.2; omega, fun z => by have := z.2; omega⟩)
  have hC2 : shAt w1 (fun i => w.length ≤ i) (fun i => Q i ∨ w.length ≤ i) w.length (X.part Sh.first 0) := by
    rw [Sh.part_0]
    exact sh_mono hC1 (fun i _ z => by rcases z with z | z <;> omega) (fun i _ z => Or.inr (by have z := z.1; omega))
  have hc : w.length ≤ w.length := Nat.le_refl _
  refine pe_go (pc := 7) rfl (s_astore_n (lv' := [(1, .ref w.length), (0, .ref a)]) rfl) ?_
  refine pe_go (pc := 8) rfl (s_iconst (z := 0) rfl) ?_
  refine pe_go (pc := 9) rfl (s_istore_n (lv' := [(2, .int (iI 0)), (1, .ref w.length), (0, .ref a)]) rfl) ?_
  refine l_copy (O := fun i => O i ∧ i < w.length) (Q := fun i => Q i ∧ i < w.length) (O2 := fun i => w.length ≤ i) (Q2 := fun i => Q i ∨ w.length ≤ i) (n0 := w.length) (fun i => Iff.rfl) (fun i h => Or.inl h.1.1) (fun i h => Or.inr h) (fun i h => h.2) (fun i h => h.2) 40 0 w1 (by omega) (by have := g1'.1; exact this) hA1 hC2 (fun w2 s1 s2 s3 s4 => ?_)
  obtain ⟨pa, fa, ha, pf, gf, hf, ff, hP⟩ := s1
  obtain ⟨pc9, fc, hc9, qf, kf, lf, gg, hR⟩ := s2
  have hO := hR.1
  have hcell : w2[w.length]? = some (.inr (9, [.ref pc9, .ref fc, .ref hc9, .int (iI (X.part Sh.first 40).2.2.2)])) := hR.2.1
  have m1 : (w2.set w.length (.inr (9, [.ref pc9, .ref fc, .ref hc9, .int (iI X.2.2.2)])))[w.length]? = some (.inr (9, [.ref pc9, .ref fc, .ref hc9, .int (iI X.2.2.2)])) := set_at hcell
  have haw : a < w.length := hP.1.1.2
  have ma : (w2.set w.length (.inr (9, [.ref pc9, .ref fc, .ref hc9, .int (iI X.2.2.2)])))[a]? = some (.inr (9, [.ref pa, .ref fa, .ref ha, .int (iI X.2.2.2)])) := set_keep hP.2.1 (by omega)
  have hend := sh_end hR (Y := X) (hb' := ha) (hf' := hf) hP.2.2.2.2.2.2.2.2.1 hP.2.2.2.2.2.2.2.2.2.1 (fun k hk => by
    obtain ⟨r, x, y, r1, r2, r3, r4⟩ := hP.2.2.2.2.2.2.2.2.2.2 k hk
    exact ⟨r, x, y, r1, Or.inl r2.1, r3, r4⟩) (Or.inl hP.1.2.2.2.1.1) (by
    have q1 := hP.1.2.2.2.1.2
    have q2 : w.length ≤ pc9 := hO.2.1
    have q3 : w.length ≤ fc := hO.2.2.1
    exact ⟨by omega, by omega⟩)
  have hw3 : (w2.set w.length (.inr (9, [.ref pc9, .ref fc, .ref hc9, .int (iI X.2.2.2)]))).set w.length (.inr (9, [.ref pc9, .ref fc, .ref ha, .int (iI X.2.2.2)])) = w2.set w.length (.inr (9, [.ref pc9, .ref fc, .ref ha, .int (iI X.2.2.2)])) := List.set_set _
  have hX40 : ∀ (w9 : pW) (ha9 : Nat) (hf9 : Nat → Option Nat), shP w9 (fun i => w.length ≤ i) (fun i => Q i ∨ w.length ≤ i) w.length ((X.part Sh.first 40).1, (X.part Sh.first 40).2.1, X.2.2.1, X.2.2.2) pc9 fc ha9 qf kf hf9 gg → shAt w9 (fun i => w.length ≤ i) (fun i => Q i ∨ w.length ≤ i) w.length X := by
    intro w9 ha9 hf9 ⟨h0, h1, h2, h3, h4, h5, h6, h7, h8, h9, h10⟩
    refine ⟨pc9, fc, ha9, qf, kf, hf9, gg, h0, h1, h2, fun k hk hX => h3 k hk ?_, fun k x y z hk hX => h4 k x y z hk ?_, h5, fun k hk => ?_, h7, h8, h9, h10⟩
    · show (if k < 40 then X.1 k else Sh.first.1 k) = none
      rw [if_pos hk]; exact hX
    · show (if k < 40 then X.1 k else Sh.first.1 k) = some (x, y, z)
      rw [if_pos hk]; exact hX
    · obtain ⟨r1, r2, r3⟩ := h6 k hk
      refine ⟨r1, r2, ?_⟩
      have r3' : rowI w9 (gg k) 40 (if k < 40 then X.2.1 k else Sh.first.2.1 k) := r3
      rw [if_pos hk] at r3'
      exact r3'
  refine pe_go (pc := 52) rfl (s_aload_n rfl) ?_
  refine pe_go (pc := 53) rfl (s_aload_n rfl) ?_
  refine pe_go (pc := 54) rfl (s_getf (v := .int (iI X.2.2.2)) hP.2.1 rfl) ?_
  refine pe_go (pc := 57) rfl (s_putf (w' := w2.set w.length (.inr (9, [.ref pc9, .ref fc, .ref hc9, .int (iI X.2.2.2)]))) hcell (Nat.le_of_ble_eq_true rfl) rfl rfl) ?_
  refine pe_go (pc := 60) rfl (s_aload_n rfl) ?_
  refine pe_go (pc := 61) rfl (s_aload_n rfl) ?_
  refine pe_go (pc := 62) rfl (s_getf (v := .ref ha) ma rfl) ?_
  refine pe_go (pc := 65) rfl (s_putf (w' := w2.set w.length (.inr (9, [.ref pc9, .ref fc, .ref ha, .int (iI X.2.2.2)]))) m1 (Nat.le_of_ble_eq_true rfl) rfl hw3) ?_
  refine pe_go (pc := 68) rfl (s_aload_n rfl) ?_
  exact pe_ret rfl s_reta ⟨w.length, rfl, Nat.le_refl _, hX40 _ _ _ hend, agr_trans g1' (agr_trans s3 (agr_set (P := fun i => w.length ≤ i) (Nat.le_refl _)) (fun _ z => z)) (fun _ z => z), gro_mono (gro_put (c' := .inr (9, [.ref pc9, .ref fc, .ref ha, .int (iI X.2.2.2)])) (gro_trans z1' s4) hcell rfl) (by decide) (by decide)⟩
