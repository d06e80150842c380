/-! THE LAW: triangles with an obtuse angle and with a right one, told by the sides. Rows laid by program (wip/p63/wk.py, hw.py, mk98l.py). -/
theorem cell_app {w l : pW} {a : Nat} {c : pCell} (h : w[a]? = some c) : (w ++ l)[a]? = some c := by
  have : a < w.length := by
    rcases Nat.lt_or_ge a w.length with z | z
    · exact z
    · rw [List.getElem?_eq_none z] at h; cases h
  rw [List.getElem?_append_left this]
  exact h
theorem OB_app {pre post : pW} {b : Nat} {S : St} {L M : List St} {K : St} {w : pW} (hO : OB pre post b S L M K w) (l : pW) : OB pre (post ++ l) b S L M K (w ++ l) := by
  obtain ⟨hS, hLo, hLl, hMo, hMl, pn, pb, rn, rb, cl, kp, kr, rfl⟩ := hO
  refine ⟨hS, hLo, hLl, hMo, hMl, pn, pb, rn, rb, cl, kp, kr, ?_⟩
  simp only [List.append_assoc]
theorem shP_app {w : pW} {O Q : Nat → Prop} {a : Nat} {X : Sh} {pa fa ha : Nat} {pf gf hf : Nat → Option Nat} {ff : Nat → Nat} (h : shP w O Q a X pa fa ha pf gf hf ff) (l : pW) : shP (w ++ l) O Q a X pa fa ha pf gf hf ff := by
  obtain ⟨hb, h0, h1, h2, h3, h4, h5, h6, h7, h8, h9⟩ := h
  refine ⟨hb, cell_app h0, cell_app h1, h2, fun k x y z hk e => ?_, cell_app h4, fun k hk => ?_, h6, cell_app h7, h8, fun k hk => ?_⟩
  · obtain ⟨r, r1, r2, r3⟩ := h3 k x y z hk e
    exact ⟨r, r1, r2, cell_app r3⟩
  · obtain ⟨r1, r2, r3⟩ := h5 k hk
    exact ⟨r1, r2, cell_app r3⟩
  · obtain ⟨r, x, y, r1, r2, r3, r4⟩ := h9 k hk
    exact ⟨r, x, y, r1, r2, cell_app r3, r4⟩
theorem shAt_app {w : pW} {O Q : Nat → Prop} {a : Nat} {X : Sh} (h : shAt w O Q a X) (l : pW) : shAt (w ++ l) O Q a X := by
  obtain ⟨pa, fa, ha, pf, gf, hf, ff, h⟩ := h
  exact ⟨pa, fa, ha, pf, gf, hf, ff, shP_app h l⟩
theorem corner_at {pre post : pW} {b : Nat} (hb : pre.length = b) {S : St} {L M : List St} {K : St} {w : pW} (hO : OB pre post b S L M K w) {T : Nat} (hT : S.tn = (T : Int)) (hT2 : T ≤ 74) {t k p : Nat} (ht : t < T) (hk : k < 3) (h : S.cn t k = p) : pRun 109 [.ref b, .int (iI (t : Int)), .int (iI (k : Int))] w (some (.int (iI (p : Int)))) w := h ▸ o_corner hb hO hT hT2 ht hk
theorem s_iadd0 {pc : Nat} {lv : pLv} {st : List Value} {w : pW} {x : Int} : pS1 .iadd pc [] lv (.int (iI 0) :: .int (iI x) :: st) w = some (.inl (pc + 1, lv, .int (iI x) :: st, w)) := by
  rw [s_iadd, Int.add_zero]
theorem get_new {c0 c : pCell} {l : pW} : (c0 :: (l ++ [c]))[l.length + 1]? = some c := by
  rw [List.getElem?_cons_succ, List.getElem?_append_right (Nat.le_refl _), Nat.sub_self]
  rfl
theorem set_new {c0 c c' : pCell} {l : pW} : (c0 :: (l ++ [c])).set (l.length + 1) c' = c0 :: (l ++ [c']) := by
  rw [List.set_cons_succ, List.set_append_right _ _ (Nat.le_refl _), Nat.sub_self]
  rfl
theorem sq_b2 {a : Int} (h1 : -2000 ≤ a) (h2 : a ≤ 2000) : 0 ≤ a * a ∧ a * a ≤ 4000000 := by
  have := Int.mul_nonneg (show 0 ≤ 2000 - a by omega) (show 0 ≤ a + 2000 by omega)
  have e : (2000 - a) * (a + 2000) = 4000000 - a * a := by grind
  have h : 0 ≤ a * a := by
    rcases Int.le_total 0 a with z | z
    · exact Int.mul_nonneg z z
    · have := Int.mul_nonneg (show 0 ≤ -a by omega) (show 0 ≤ -a by omega)
      rwa [Int.neg_mul_neg] at this
  omega
theorem zmaxL_b {x y : Int} (h1 : 0 ≤ x ∧ x ≤ 8000000) (h2 : 0 ≤ y ∧ y ≤ 8000000) : 0 ≤ zmaxL x y ∧ zmaxL x y ≤ 8000000 := by
  unfold zmaxL
  split <;> omega
/-- the square of a side -/
def Sh.e2 (X : Sh) (p q : Nat) : Int := (X.cx p - X.cx q) * (X.cx p - X.cx q) + (X.cy p - X.cy q) * (X.cy p - X.cy q)
/-- the greatest of a triangle's three, less the other two -/
def Sh.mx (X : Sh) (p q r : Nat) : Int := zmaxL (X.e2 p q) (zmaxL (X.e2 q r) (X.e2 r p))
def Sh.ex (X : Sh) (S : St) (t : Nat) : Int := 2 * X.mx (S.cn t 0) (S.cn t 1) (S.cn t 2) - (X.e2 (S.cn t 0) (S.cn t 1) + X.e2 (S.cn t 1) (S.cn t 2) + X.e2 (S.cn t 2) (S.cn t 0))
def Sh.obt (X : Sh) (S : St) : Nat → Int
  | 0 => 0
  | t + 1 => Sh.obt X S t + if 0 < X.ex S t then 1 else 0
def Sh.rgt (X : Sh) (S : St) : Nat → Int
  | 0 => 0
  | t + 1 => Sh.rgt X S t + if X.ex S t = 0 then 1 else 0
theorem l_angles {w : pW} {m : Nat} (hm : w.length = m) {pre post : pW} {b : Nat} (hb : pre.length = b) {S : St} {L M : List St} {K : St} (hO : OB pre post b S L M K w) {O Q : Nat → Prop} {a : Nat} {X : Sh} {pa fa ha : Nat} {pf gf hf : Nat → Option Nat} {ff : Nat → Nat} (hS : shP w O Q a X pa fa ha pf gf hf ff) (hX9 : ∀ (k : Nat) (x y z : Int), k < 40 → X.1 k = some (x, y, z) → inSq x y ∧ -9999 ≤ z ∧ z ≤ 9999) {T : Nat} (hT : S.tn = (T : Int)) (hT2 : T ≤ 74) (hC : ∀ t k : Nat, t < T → k < 3 → S.cn t k < 40 ∧ (X.1 (S.cn t k)).isSome = true) {N : Nat} (hN : N ≤ T) : ∀ (d t : Nat) (f : Nat → Int) (l : pW), t + d = N → f 0 = X.obt S t → f 1 = X.rgt S t → l.length = t → pwsz l = 3 * t → qE 152 (7, [(4, .int (iI (t : Int))), (3, .ref m), (0, .ref b), (1, .ref a), (2, .int (iI (N : Int)))], [], w ++ (.inl (0, 2, .inl (fun j => iI (f j))) :: l)) (fun r' w' => r' = some (.ref m) ∧ ∃ (f : Nat → Int) (l : pW), w' = w ++ (.inl (0, 2, .inl (fun j => iI (f j))) :: l) ∧ f 0 = X.obt S N ∧ f 1 = X.rgt S N ∧ l.length = N ∧ pwsz l = 3 * N) := by
  obtain ⟨hb9, h0, h1, h2, h3, h4, h5, h6, h7, h8, h9⟩ := hS
  intro d
  induction d with
  | zero =>
    intro t f l ht hf0 hf1 hl hz
    have htN : t = N := by omega
    subst htN
    refine pe_go (pc := 7) rfl (s_iload rfl) ?_
    refine pe_go (pc := 9) rfl (s_iload_n rfl) ?_
    refine pe_go rfl (s_icmp_ge_t ⟨by omega, by omega⟩ ⟨by omega, by omega⟩ (by omega)) ?_
    refine pe_go (pc := 198) rfl (s_aload_n rfl) ?_
    exact pe_ret rfl s_reta ⟨rfl, f, l, rfl, hf0, hf1, hl, hz⟩
  | succ d ih =>
    intro t f l ht hf0 hf1 hl hz
    obtain ⟨p0, hc0⟩ : ∃ p, S.cn t 0 = p := ⟨_, rfl⟩
    obtain ⟨hp0, hs0⟩ := hC t 0 (by omega) (by decide)
    rw [hc0] at hp0 hs0
    have e0 := Sh.of_some hs0
    obtain ⟨r0, er0, -, hr0⟩ := h3 p0 _ _ _ hp0 e0
    obtain ⟨⟨x0a, x0b, x0c, x0d⟩, -⟩ := hX9 p0 _ _ _ hp0 e0
    obtain ⟨p1, hc1⟩ : ∃ p, S.cn t 1 = p := ⟨_, rfl⟩
    obtain ⟨hp1, hs1⟩ := hC t 1 (by omega) (by decide)
    rw [hc1] at hp1 hs1
    have e1 := Sh.of_some hs1
    obtain ⟨r1, er1, -, hr1⟩ := h3 p1 _ _ _ hp1 e1
    obtain ⟨⟨x1a, x1b, x1c, x1d⟩, -⟩ := hX9 p1 _ _ _ hp1 e1
    obtain ⟨p2, hc2⟩ : ∃ p, S.cn t 2 = p := ⟨_, rfl⟩
    obtain ⟨hp2, hs2⟩ := hC t 2 (by omega) (by decide)
    rw [hc2] at hp2 hs2
    have e2 := Sh.of_some hs2
    obtain ⟨r2, er2, -, hr2⟩ := h3 p2 _ _ _ hp2 e2
    obtain ⟨⟨x2a, x2b, x2c, x2d⟩, -⟩ := hX9 p2 _ _ _ hp2 e2
    obtain ⟨d0, g0⟩ : ∃ d, (X.cx p0 - X.cx p1) * (X.cx p0 - X.cx p1) + (X.cy p0 - X.cy p1) * (X.cy p0 - X.cy p1) = d := ⟨_, rfl⟩
    have b0 : 0 ≤ d0 ∧ d0 ≤ 8000000 := by
      have u := sq_b2 (a := X.cx p0 - X.cx p1) (by omega) (by omega)
      have v := sq_b2 (a := X.cy p0 - X.cy p1) (by omega) (by omega)
      omega
    obtain ⟨d1, g1⟩ : ∃ d, (X.cx p1 - X.cx p2) * (X.cx p1 - X.cx p2) + (X.cy p1 - X.cy p2) * (X.cy p1 - X.cy p2) = d := ⟨_, rfl⟩
    have b1 : 0 ≤ d1 ∧ d1 ≤ 8000000 := by
      have u := sq_b2 (a := X.cx p1 - X.cx p2) (by omega) (by omega)
      have v := sq_b2 (a := X.cy p1 - X.cy p2) (by omega) (by omega)
      omega
    obtain ⟨d2, g2⟩ : ∃ d, (X.cx p2 - X.cx p0) * (X.cx p2 - X.cx p0) + (X.cy p2 - X.cy p0) * (X.cy p2 - X.cy p0) = d := ⟨_, rfl⟩
    have b2 : 0 ≤ d2 ∧ d2 ≤ 8000000 := by
      have u := sq_b2 (a := X.cx p2 - X.cx p0) (by omega) (by omega)
      have v := sq_b2 (a := X.cy p2 - X.cy p0) (by omega) (by omega)
      omega
    obtain ⟨M9, gM⟩ : ∃ d, zmaxL d0 (zmaxL d1 d2) = d := ⟨_, rfl⟩
    have b12 := zmaxL_b b1 b2
    have bM : 0 ≤ M9 ∧ M9 ≤ 8000000 := gM ▸ zmaxL_b b0 b12
    have hex : X.ex S t = 2 * M9 - (d0 + d1 + d2) := by
      unfold Sh.ex Sh.mx Sh.e2
      rw [hc0, hc1, hc2, g0, g1, g2, gM]
    have hz' : ∀ c : pCell, pcsz c = 3 → pwsz (l ++ [c]) = 3 * (t + 1) := fun c hc => by
      unfold pwsz at hz ⊢
      rw [List.map_append, List.sum_append, hz]
      simp only [List.map_cons, List.map_nil, List.sum_cons, List.sum_nil, hc]
      omega
    rcases Int.lt_trichotomy M9 (d0 + d1 + d2 - M9) with c | c | c
    · skip
      refine pe_go (pc := 7) rfl (s_iload rfl) ?_
      refine pe_go (pc := 9) rfl (s_iload_n rfl) ?_
      refine pe_go rfl (s_icmp_ge_f ⟨by omega, by omega⟩ ⟨by omega, by omega⟩ (by omega)) ?_
      refine pe_go (pc := 13) rfl (s_iconst (z := 3) rfl) ?_
      refine pe_go (pc := 14) rfl (s_newLP (k := l.length + 1) (l' := .inl (0, 2, .inl (fun j => iI (f j))) :: (l ++ [.inl (1, 3, .inr (.inl (fun _ => 0)))])) hm rfl rfl (by decide) rfl) ?_
      refine pe_go (pc := 16) rfl (s_astore (lv' := [(5, .ref (m + (l.length + 1))), (4, .int (iI (t : Int))), (3, .ref m), (0, .ref b), (1, .ref a), (2, .int (iI (N : Int)))]) rfl) ?_
      refine pe_go (pc := 18) rfl (s_iconst (z := 0) rfl) ?_
      refine pe_go (pc := 19) rfl (s_istore (lv' := [(6, .int (iI 0)), (5, .ref (m + (l.length + 1))), (4, .int (iI (t : Int))), (3, .ref m), (0, .ref b), (1, .ref a), (2, .int (iI (N : Int)))]) rfl) ?_
      refine pe_go (pc := 21) rfl (s_iload rfl) ?_
      refine pe_go (pc := 23) rfl (s_iconst (z := 3) rfl) ?_
      refine pe_go rfl (s_icmp_ge_f ⟨by decide, by decide⟩ ⟨by decide, by decide⟩ (by decide)) ?_
      refine pe_go (pc := 27) rfl (s_aload_n rfl) ?_
      refine pe_go (pc := 28) rfl (s_getf (v := .ref pa) (cell_app h0) rfl) ?_
      refine pe_go (pc := 31) rfl (s_aload_n rfl) ?_
      refine pe_go (pc := 32) rfl (s_iload rfl) ?_
      refine pe_go (pc := 34) rfl (s_iload rfl) ?_
      refine pe_call rfl (s_invV rfl (cell_app (OB.obj hb hO)) rfl rfl) (corner_at hb (OB_app hO _) hT hT2 (t := t) (k := 0) (by omega) (by decide) hc0) ?_
      refine pe_go (pc := 39) rfl (s_aald (cell_app h1) (k := p0) (by omega) (by omega) er0) ?_
      refine pe_go (pc := 40) rfl (s_astore (lv' := [(7, .ref r0), (6, .int (iI 0)), (5, .ref (m + (l.length + 1))), (4, .int (iI (t : Int))), (3, .ref m), (0, .ref b), (1, .ref a), (2, .int (iI (N : Int)))]) rfl) ?_
      refine pe_go (pc := 42) rfl (s_aload_n rfl) ?_
      refine pe_go (pc := 43) rfl (s_getf (v := .ref pa) (cell_app h0) rfl) ?_
      refine pe_go (pc := 46) rfl (s_aload_n rfl) ?_
      refine pe_go (pc := 47) rfl (s_iload rfl) ?_
      refine pe_go (pc := 49) rfl (s_iload rfl) ?_
      refine pe_go (pc := 51) rfl (s_iconst (z := 1) rfl) ?_
      refine pe_go (q := (53, [(7, .ref r0), (6, .int (iI 0)), (5, .ref (m + (l.length + 1))), (4, .int (iI (t : Int))), (3, .ref m), (0, .ref b), (1, .ref a), (2, .int (iI (N : Int)))], [.int (iI 1), .int (iI (t : Int)), .ref b, .ref pa], w ++ (.inl (0, 2, .inl (fun j => iI (f j))) :: (l ++ [.inl (1, 3, .inr (.inl (fun _ => 0)))])))) rfl s_iadd ?_
      refine pe_go (pc := 53) rfl (s_iconst (z := 3) rfl) ?_
      refine pe_go (pc := 54) rfl (s_irem ⟨by decide, by decide⟩ ⟨by decide, by decide⟩ (by decide) (by decide) (show Int.tmod 1 3 = 1 from by decide)) ?_
      refine pe_call rfl (s_invV rfl (cell_app (OB.obj hb hO)) rfl rfl) (corner_at hb (OB_app hO _) hT hT2 (t := t) (k := 1) (by omega) (by decide) hc1) ?_
      refine pe_go (pc := 58) rfl (s_aald (cell_app h1) (k := p1) (by omega) (by omega) er1) ?_
      refine pe_go (pc := 59) rfl (s_astore (lv' := [(8, .ref r1), (7, .ref r0), (6, .int (iI 0)), (5, .ref (m + (l.length + 1))), (4, .int (iI (t : Int))), (3, .ref m), (0, .ref b), (1, .ref a), (2, .int (iI (N : Int)))]) rfl) ?_
      refine pe_go (pc := 61) rfl (s_aload rfl) ?_
      refine pe_go (pc := 63) rfl (s_iload rfl) ?_
      refine pe_go (pc := 65) rfl (s_aload rfl) ?_
      refine pe_go (pc := 67) rfl (s_iconst (z := 0) rfl) ?_
      refine pe_go (pc := 68) rfl (s_iald (n := 3) (f := row3 (X.cx p0) (X.cy p0) (X.cz p0)) (v := X.cx p0) (cell_app hr0) (k := 0) (by omega) (by omega) (by decide) rfl) ?_
      refine pe_go (pc := 69) rfl (s_aload rfl) ?_
      refine pe_go (pc := 71) rfl (s_iconst (z := 0) rfl) ?_
      refine pe_go (pc := 72) rfl (s_iald (n := 3) (f := row3 (X.cx p1) (X.cy p1) (X.cz p1)) (v := X.cx p1) (cell_app hr1) (k := 0) (by omega) (by omega) (by decide) rfl) ?_
      refine pe_go (pc := 73) rfl s_isub ?_
      refine pe_go (pc := 74) rfl (s_i2l ⟨by omega, by omega⟩) ?_
      refine pe_go (pc := 75) rfl (s_aload rfl) ?_
      refine pe_go (pc := 77) rfl (s_iconst (z := 0) rfl) ?_
      refine pe_go (pc := 78) rfl (s_iald (n := 3) (f := row3 (X.cx p0) (X.cy p0) (X.cz p0)) (v := X.cx p0) (cell_app hr0) (k := 0) (by omega) (by omega) (by decide) rfl) ?_
      refine pe_go (pc := 79) rfl (s_aload rfl) ?_
      refine pe_go (pc := 81) rfl (s_iconst (z := 0) rfl) ?_
      refine pe_go (pc := 82) rfl (s_iald (n := 3) (f := row3 (X.cx p1) (X.cy p1) (X.cz p1)) (v := X.cx p1) (cell_app hr1) (k := 0) (by omega) (by omega) (by decide) rfl) ?_
      refine pe_go (pc := 83) rfl s_isub ?_
      refine pe_go (pc := 84) rfl (s_i2l ⟨by omega, by omega⟩) ?_
      refine pe_go (pc := 85) rfl s_lmul ?_
      refine pe_go (pc := 86) rfl (s_aload rfl) ?_
      refine pe_go (pc := 88) rfl (s_iconst (z := 1) rfl) ?_
      refine pe_go (pc := 89) rfl (s_iald (n := 3) (f := row3 (X.cx p0) (X.cy p0) (X.cz p0)) (v := X.cy p0) (cell_app hr0) (k := 1) (by omega) (by omega) (by decide) rfl) ?_
      refine pe_go (pc := 90) rfl (s_aload rfl) ?_
      refine pe_go (pc := 92) rfl (s_iconst (z := 1) rfl) ?_
      refine pe_go (pc := 93) rfl (s_iald (n := 3) (f := row3 (X.cx p1) (X.cy p1) (X.cz p1)) (v := X.cy p1) (cell_app hr1) (k := 1) (by omega) (by omega) (by decide) rfl) ?_
      refine pe_go (pc := 94) rfl s_isub ?_
      refine pe_go (pc := 95) rfl (s_i2l ⟨by omega, by omega⟩) ?_
      refine pe_go (pc := 96) rfl (s_aload rfl) ?_
      refine pe_go (pc := 98) rfl (s_iconst (z := 1) rfl) ?_
      refine pe_go (pc := 99) rfl (s_iald (n := 3) (f := row3 (X.cx p0) (X.cy p0) (X.cz p0)) (v := X.cy p0) (cell_app hr0) (k := 1) (by omega) (by omega) (by decide) rfl) ?_
      refine pe_go (pc := 100) rfl (s_aload rfl) ?_
      refine pe_go (pc := 102) rfl (s_iconst (z := 1) rfl) ?_
      refine pe_go (pc := 103) rfl (s_iald (n := 3) (f := row3 (X.cx p1) (X.cy p1) (X.cz p1)) (v := X.cy p1) (cell_app hr1) (k := 1) (by omega) (by omega) (by decide) rfl) ?_
      refine pe_go (pc := 104) rfl s_isub ?_
      refine pe_go (pc := 105) rfl (s_i2l ⟨by omega, by omega⟩) ?_
      refine pe_go (pc := 106) rfl s_lmul ?_
      refine pe_go (pc := 107) rfl s_ladd ?_
      rw [g0]
      refine pe_go (pc := 108) rfl (s_last (n := 3) (f := fun _ => 0) (w' := w ++ (.inl (0, 2, .inl (fun j => iI (f j))) :: (l ++ [.inl (1, 3, .inr (.inl (vp_updL (fun _ => 0) 0 (lI d0))))]))) (gA hm get_new) (k := 0) (by omega) (by omega) (by decide) (gS hm set_new)) ?_
      refine pe_go (pc := 109) rfl (s_iinc (x := 0) (y := 1) rfl (by omega) (lv' := [(6, .int (iI 1)), (8, .ref r1), (7, .ref r0), (5, .ref (m + (l.length + 1))), (4, .int (iI (t : Int))), (3, .ref m), (0, .ref b), (1, .ref a), (2, .int (iI (N : Int)))]) rfl) ?_
      refine pe_go (pc := 112) rfl s_goto ?_
      refine pe_go (pc := 21) rfl (s_iload rfl) ?_
      refine pe_go (pc := 23) rfl (s_iconst (z := 3) rfl) ?_
      refine pe_go rfl (s_icmp_ge_f ⟨by decide, by decide⟩ ⟨by decide, by decide⟩ (by decide)) ?_
      refine pe_go (pc := 27) rfl (s_aload_n rfl) ?_
      refine pe_go (pc := 28) rfl (s_getf (v := .ref pa) (cell_app h0) rfl) ?_
      refine pe_go (pc := 31) rfl (s_aload_n rfl) ?_
      refine pe_go (pc := 32) rfl (s_iload rfl) ?_
      refine pe_go (pc := 34) rfl (s_iload rfl) ?_
      refine pe_call rfl (s_invV rfl (cell_app (OB.obj hb hO)) rfl rfl) (corner_at hb (OB_app hO _) hT hT2 (t := t) (k := 1) (by omega) (by decide) hc1) ?_
      refine pe_go (pc := 39) rfl (s_aald (cell_app h1) (k := p1) (by omega) (by omega) er1) ?_
      refine pe_go (pc := 40) rfl (s_astore (lv' := [(7, .ref r1), (6, .int (iI 1)), (8, .ref r1), (5, .ref (m + (l.length + 1))), (4, .int (iI (t : Int))), (3, .ref m), (0, .ref b), (1, .ref a), (2, .int (iI (N : Int)))]) rfl) ?_
      refine pe_go (pc := 42) rfl (s_aload_n rfl) ?_
      refine pe_go (pc := 43) rfl (s_getf (v := .ref pa) (cell_app h0) rfl) ?_
      refine pe_go (pc := 46) rfl (s_aload_n rfl) ?_
      refine pe_go (pc := 47) rfl (s_iload rfl) ?_
      refine pe_go (pc := 49) rfl (s_iload rfl) ?_
      refine pe_go (pc := 51) rfl (s_iconst (z := 1) rfl) ?_
      refine pe_go (q := (53, [(7, .ref r1), (6, .int (iI 1)), (8, .ref r1), (5, .ref (m + (l.length + 1))), (4, .int (iI (t : Int))), (3, .ref m), (0, .ref b), (1, .ref a), (2, .int (iI (N : Int)))], [.int (iI 2), .int (iI (t : Int)), .ref b, .ref pa], w ++ (.inl (0, 2, .inl (fun j => iI (f j))) :: (l ++ [.inl (1, 3, .inr (.inl (vp_updL (fun _ => 0) 0 (lI d0))))])))) rfl s_iadd ?_
      refine pe_go (pc := 53) rfl (s_iconst (z := 3) rfl) ?_
      refine pe_go (pc := 54) rfl (s_irem ⟨by decide, by decide⟩ ⟨by decide, by decide⟩ (by decide) (by decide) (show Int.tmod 2 3 = 2 from by decide)) ?_
      refine pe_call rfl (s_invV rfl (cell_app (OB.obj hb hO)) rfl rfl) (corner_at hb (OB_app hO _) hT hT2 (t := t) (k := 2) (by omega) (by decide) hc2) ?_
      refine pe_go (pc := 58) rfl (s_aald (cell_app h1) (k := p2) (by omega) (by omega) er2) ?_
      refine pe_go (pc := 59) rfl (s_astore (lv' := [(8, .ref r2), (7, .ref r1), (6, .int (iI 1)), (5, .ref (m + (l.length + 1))), (4, .int (iI (t : Int))), (3, .ref m), (0, .ref b), (1, .ref a), (2, .int (iI (N : Int)))]) rfl) ?_
      refine pe_go (pc := 61) rfl (s_aload rfl) ?_
      refine pe_go (pc := 63) rfl (s_iload rfl) ?_
      refine pe_go (pc := 65) rfl (s_aload rfl) ?_
      refine pe_go (pc := 67) rfl (s_iconst (z := 0) rfl) ?_
      refine pe_go (pc := 68) rfl (s_iald (n := 3) (f := row3 (X.cx p1) (X.cy p1) (X.cz p1)) (v := X.cx p1) (cell_app hr1) (k := 0) (by omega) (by omega) (by decide) rfl) ?_
      refine pe_go (pc := 69) rfl (s_aload rfl) ?_
      refine pe_go (pc := 71) rfl (s_iconst (z := 0) rfl) ?_
      refine pe_go (pc := 72) rfl (s_iald (n := 3) (f := row3 (X.cx p2) (X.cy p2) (X.cz p2)) (v := X.cx p2) (cell_app hr2) (k := 0) (by omega) (by omega) (by decide) rfl) ?_
      refine pe_go (pc := 73) rfl s_isub ?_
      refine pe_go (pc := 74) rfl (s_i2l ⟨by omega, by omega⟩) ?_
      refine pe_go (pc := 75) rfl (s_aload rfl) ?_
      refine pe_go (pc := 77) rfl (s_iconst (z := 0) rfl) ?_
      refine pe_go (pc := 78) rfl (s_iald (n := 3) (f := row3 (X.cx p1) (X.cy p1) (X.cz p1)) (v := X.cx p1) (cell_app hr1) (k := 0) (by omega) (by omega) (by decide) rfl) ?_
      refine pe_go (pc := 79) rfl (s_aload rfl) ?_
      refine pe_go (pc := 81) rfl (s_iconst (z := 0) rfl) ?_
      refine pe_go (pc := 82) rfl (s_iald (n := 3) (f := row3 (X.cx p2) (X.cy p2) (X.cz p2)) (v := X.cx p2) (cell_app hr2) (k := 0) (by omega) (by omega) (by decide) rfl) ?_
      refine pe_go (pc := 83) rfl s_isub ?_
      refine pe_go (pc := 84) rfl (s_i2l ⟨by omega, by omega⟩) ?_
      refine pe_go (pc := 85) rfl s_lmul ?_
      refine pe_go (pc := 86) rfl (s_aload rfl) ?_
      refine pe_go (pc := 88) rfl (s_iconst (z := 1) rfl) ?_
      refine pe_go (pc := 89) rfl (s_iald (n := 3) (f := row3 (X.cx p1) (X.cy p1) (X.cz p1)) (v := X.cy p1) (cell_app hr1) (k := 1) (by omega) (by omega) (by decide) rfl) ?_
      refine pe_go (pc := 90) rfl (s_aload rfl) ?_
      refine pe_go (pc := 92) rfl (s_iconst (z := 1) rfl) ?_
      refine pe_go (pc := 93) rfl (s_iald (n := 3) (f := row3 (X.cx p2) (X.cy p2) (X.cz p2)) (v := X.cy p2) (cell_app hr2) (k := 1) (by omega) (by omega) (by decide) rfl) ?_
      refine pe_go (pc := 94) rfl s_isub ?_
      refine pe_go (pc := 95) rfl (s_i2l ⟨by omega, by omega⟩) ?_
      refine pe_go (pc := 96) rfl (s_aload rfl) ?_
      refine pe_go (pc := 98) rfl (s_iconst (z := 1) rfl) ?_
      refine pe_go (pc := 99) rfl (s_iald (n := 3) (f := row3 (X.cx p1) (X.cy p1) (X.cz p1)) (v := X.cy p1) (cell_app hr1) (k := 1) (by omega) (by omega) (by decide) rfl) ?_
      refine pe_go (pc := 100) rfl (s_aload rfl) ?_
      refine pe_go (pc := 102) rfl (s_iconst (z := 1) rfl) ?_
      refine pe_go (pc := 103) rfl (s_iald (n := 3) (f := row3 (X.cx p2) (X.cy p2) (X.cz p2)) (v := X.cy p2) (cell_app hr2) (k := 1) (by omega) (by omega) (by decide) rfl) ?_
      refine pe_go (pc := 104) rfl s_isub ?_
      refine pe_go (pc := 105) rfl (s_i2l ⟨by omega, by omega⟩) ?_
      refine pe_go (pc := 106) rfl s_lmul ?_
      refine pe_go (pc := 107) rfl s_ladd ?_
      rw [g1]
      refine pe_go (pc := 108) rfl (s_last (n := 3) (f := vp_updL (fun _ => 0) 0 (lI d0)) (w' := w ++ (.inl (0, 2, .inl (fun j => iI (f j))) :: (l ++ [.inl (1, 3, .inr (.inl (vp_updL (vp_updL (fun _ => 0) 0 (lI d0)) 1 (lI d1))))]))) (gA hm get_new) (k := 1) (by omega) (by omega) (by decide) (gS hm set_new)) ?_
      refine pe_go (pc := 109) rfl (s_iinc (x := 1) (y := 2) rfl (by omega) (lv' := [(6, .int (iI 2)), (8, .ref r2), (7, .ref r1), (5, .ref (m + (l.length + 1))), (4, .int (iI (t : Int))), (3, .ref m), (0, .ref b), (1, .ref a), (2, .int (iI (N : Int)))]) rfl) ?_
      refine pe_go (pc := 112) rfl s_goto ?_
      refine pe_go (pc := 21) rfl (s_iload rfl) ?_
      refine pe_go (pc := 23) rfl (s_iconst (z := 3) rfl) ?_
      refine pe_go rfl (s_icmp_ge_f ⟨by decide, by decide⟩ ⟨by decide, by decide⟩ (by decide)) ?_
      refine pe_go (pc := 27) rfl (s_aload_n rfl) ?_
      refine pe_go (pc := 28) rfl (s_getf (v := .ref pa) (cell_app h0) rfl) ?_
      refine pe_go (pc := 31) rfl (s_aload_n rfl) ?_
      refine pe_go (pc := 32) rfl (s_iload rfl) ?_
      refine pe_go (pc := 34) rfl (s_iload rfl) ?_
      refine pe_call rfl (s_invV rfl (cell_app (OB.obj hb hO)) rfl rfl) (corner_at hb (OB_app hO _) hT hT2 (t := t) (k := 2) (by omega) (by decide) hc2) ?_
      refine pe_go (pc := 39) rfl (s_aald (cell_app h1) (k := p2) (by omega) (by omega) er2) ?_
      refine pe_go (pc := 40) rfl (s_astore (lv' := [(7, .ref r2), (6, .int (iI 2)), (8, .ref r2), (5, .ref (m + (l.length + 1))), (4, .int (iI (t : Int))), (3, .ref m), (0, .ref b), (1, .ref a), (2, .int (iI (N : Int)))]) rfl) ?_
      refine pe_go (pc := 42) rfl (s_aload_n rfl) ?_
      refine pe_go (pc := 43) rfl (s_getf (v := .ref pa) (cell_app h0) rfl) ?_
      refine pe_go (pc := 46) rfl (s_aload_n rfl) ?_
      refine pe_go (pc := 47) rfl (s_iload rfl) ?_
      refine pe_go (pc := 49) rfl (s_iload rfl) ?_
      refine pe_go (pc := 51) rfl (s_iconst (z := 1) rfl) ?_
      refine pe_go (q := (53, [(7, .ref r2), (6, .int (iI 2)), (8, .ref r2), (5, .ref (m + (l.length + 1))), (4, .int (iI (t : Int))), (3, .ref m), (0, .ref b), (1, .ref a), (2, .int (iI (N : Int)))], [.int (iI 3), .int (iI (t : Int)), .ref b, .ref pa], w ++ (.inl (0, 2, .inl (fun j => iI (f j))) :: (l ++ [.inl (1, 3, .inr (.inl (vp_updL (vp_updL (fun _ => 0) 0 (lI d0)) 1 (lI d1))))])))) rfl s_iadd ?_
      refine pe_go (pc := 53) rfl (s_iconst (z := 3) rfl) ?_
      refine pe_go (pc := 54) rfl (s_irem ⟨by decide, by decide⟩ ⟨by decide, by decide⟩ (by decide) (by decide) (show Int.tmod 3 3 = 0 from by decide)) ?_
      refine pe_call rfl (s_invV rfl (cell_app (OB.obj hb hO)) rfl rfl) (corner_at hb (OB_app hO _) hT hT2 (t := t) (k := 0) (by omega) (by decide) hc0) ?_
      refine pe_go (pc := 58) rfl (s_aald (cell_app h1) (k := p0) (by omega) (by omega) er0) ?_
      refine pe_go (pc := 59) rfl (s_astore (lv' := [(8, .ref r0), (7, .ref r2), (6, .int (iI 2)), (5, .ref (m + (l.length + 1))), (4, .int (iI (t : Int))), (3, .ref m), (0, .ref b), (1, .ref a), (2, .int (iI (N : Int)))]) rfl) ?_
      refine pe_go (pc := 61) rfl (s_aload rfl) ?_
      refine pe_go (pc := 63) rfl (s_iload rfl) ?_
      refine pe_go (pc := 65) rfl (s_aload rfl) ?_
      refine pe_go (pc := 67) rfl (s_iconst (z := 0) rfl) ?_
      refine pe_go (pc := 68) rfl (s_iald (n := 3) (f := row3 (X.cx p2) (X.cy p2) (X.cz p2)) (v := X.cx p2) (cell_app hr2) (k := 0) (by omega) (by omega) (by decide) rfl) ?_
      refine pe_go (pc := 69) rfl (s_aload rfl) ?_
      refine pe_go (pc := 71) rfl (s_iconst (z := 0) rfl) ?_
      refine pe_go (pc := 72) rfl (s_iald (n := 3) (f := row3 (X.cx p0) (X.cy p0) (X.cz p0)) (v := X.cx p0) (cell_app hr0) (k := 0) (by omega) (by omega) (by decide) rfl) ?_
      refine pe_go (pc := 73) rfl s_isub ?_
      refine pe_go (pc := 74) rfl (s_i2l ⟨by omega, by omega⟩) ?_
      refine pe_go (pc := 75) rfl (s_aload rfl) ?_
      refine pe_go (pc := 77) rfl (s_iconst (z := 0) rfl) ?_
      refine pe_go (pc := 78) rfl (s_iald (n := 3) (f := row3 (X.cx p2) (X.cy p2) (X.cz p2)) (v := X.cx p2) (cell_app hr2) (k := 0) (by omega) (by omega) (by decide) rfl) ?_
      refine pe_go (pc := 79) rfl (s_aload rfl) ?_
      refine pe_go (pc := 81) rfl (s_iconst (z := 0) rfl) ?_
      refine pe_go (pc := 82) rfl (s_iald (n := 3) (f := row3 (X.cx p0) (X.cy p0) (X.cz p0)) (v := X.cx p0) (cell_app hr0) (k := 0) (by omega) (by omega) (by decide) rfl) ?_
      refine pe_go (pc := 83) rfl s_isub ?_
      refine pe_go (pc := 84) rfl (s_i2l ⟨by omega, by omega⟩) ?_
      refine pe_go (pc := 85) rfl s_lmul ?_
      refine pe_go (pc := 86) rfl (s_aload rfl) ?_
      refine pe_go (pc := 88) rfl (s_iconst (z := 1) rfl) ?_
      refine pe_go (pc := 89) rfl (s_iald (n := 3) (f := row3 (X.cx p2) (X.cy p2) (X.cz p2)) (v := X.cy p2) (cell_app hr2) (k := 1) (by omega) (by omega) (by decide) rfl) ?_
      refine pe_go (pc := 90) rfl (s_aload rfl) ?_
      refine pe_go (pc := 92) rfl (s_iconst (z := 1) rfl) ?_
      refine pe_go (pc := 93) rfl (s_iald (n := 3) (f := row3 (X.cx p0) (X.cy p0) (X.cz p0)) (v := X.cy p0) (cell_app hr0) (k := 1) (by omega) (by omega) (by decide) rfl) ?_
      refine pe_go (pc := 94) rfl s_isub ?_
      refine pe_go (pc := 95) rfl (s_i2l ⟨by omega, by omega⟩) ?_
      refine pe_go (pc := 96) rfl (s_aload rfl) ?_
      refine pe_go (pc := 98) rfl (s_iconst (z := 1) rfl) ?_
      refine pe_go (pc := 99) rfl (s_iald (n := 3) (f := row3 (X.cx p2) (X.cy p2) (X.cz p2)) (v := X.cy p2) (cell_app hr2) (k := 1) (by omega) (by omega) (by decide) rfl) ?_
      refine pe_go (pc := 100) rfl (s_aload rfl) ?_
      refine pe_go (pc := 102) rfl (s_iconst (z := 1) rfl) ?_
      refine pe_go (pc := 103) rfl (s_iald (n := 3) (f := row3 (X.cx p0) (X.cy p0) (X.cz p0)) (v := X.cy p0) (cell_app hr0) (k := 1) (by omega) (by omega) (by decide) rfl) ?_
      refine pe_go (pc := 104) rfl s_isub ?_
      refine pe_go (pc := 105) rfl (s_i2l ⟨by omega, by omega⟩) ?_
      refine pe_go (pc := 106) rfl s_lmul ?_
      refine pe_go (pc := 107) rfl s_ladd ?_
      rw [g2]
      refine pe_go (pc := 108) rfl (s_last (n := 3) (f := vp_updL (vp_updL (fun _ => 0) 0 (lI d0)) 1 (lI d1)) (w' := w ++ (.inl (0, 2, .inl (fun j => iI (f j))) :: (l ++ [.inl (1, 3, .inr (.inl (vp_updL (vp_updL (vp_updL (fun _ => 0) 0 (lI d0)) 1 (lI d1)) 2 (lI d2))))]))) (gA hm get_new) (k := 2) (by omega) (by omega) (by decide) (gS hm set_new)) ?_
      refine pe_go (pc := 109) rfl (s_iinc (x := 2) (y := 3) rfl (by omega) (lv' := [(6, .int (iI 3)), (8, .ref r0), (7, .ref r2), (5, .ref (m + (l.length + 1))), (4, .int (iI (t : Int))), (3, .ref m), (0, .ref b), (1, .ref a), (2, .int (iI (N : Int)))]) rfl) ?_
      refine pe_go (pc := 112) rfl s_goto ?_
      refine pe_go (pc := 21) rfl (s_iload rfl) ?_
      refine pe_go (pc := 23) rfl (s_iconst (z := 3) rfl) ?_
      refine pe_go rfl (s_icmp_ge_t ⟨by decide, by decide⟩ ⟨by decide, by decide⟩ (by decide)) ?_
      refine pe_go (pc := 115) rfl (s_aload rfl) ?_
      refine pe_go (pc := 117) rfl (s_iconst (z := 0) rfl) ?_
      refine pe_go (pc := 118) rfl (s_lald (n := 3) (f := vp_updL (vp_updL (vp_updL (fun _ => 0) 0 (lI d0)) 1 (lI d1)) 2 (lI d2)) (v := lI d0) (gA hm get_new) (k := 0) (by omega) (by omega) (by decide) rfl) ?_
      refine pe_go (pc := 119) rfl (s_aload rfl) ?_
      refine pe_go (pc := 121) rfl (s_iconst (z := 1) rfl) ?_
      refine pe_go (pc := 122) rfl (s_lald (n := 3) (f := vp_updL (vp_updL (vp_updL (fun _ => 0) 0 (lI d0)) 1 (lI d1)) 2 (lI d2)) (v := lI d1) (gA hm get_new) (k := 1) (by omega) (by omega) (by decide) rfl) ?_
      refine pe_go (pc := 123) rfl (s_aload rfl) ?_
      refine pe_go (pc := 125) rfl (s_iconst (z := 2) rfl) ?_
      refine pe_go (pc := 126) rfl (s_lald (n := 3) (f := vp_updL (vp_updL (vp_updL (fun _ => 0) 0 (lI d0)) 1 (lI d1)) 2 (lI d2)) (v := lI d2) (gA hm get_new) (k := 2) (by omega) (by omega) (by decide) rfl) ?_
      refine pe_call rfl (s_invS rfl rfl rfl) (c_maxL (x := d1) (y := d2) ⟨by omega, by omega⟩ ⟨by omega, by omega⟩) ?_
      refine pe_call rfl (s_invS rfl rfl rfl) (c_maxL (x := d0) (y := zmaxL d1 d2) ⟨by omega, by omega⟩ ⟨by omega, by omega⟩) ?_
      rw [gM]
      refine pe_go (pc := 133) rfl (s_lstore (lv' := [(6, .long (lI M9)), (8, .ref r0), (5, .ref (m + (l.length + 1))), (4, .int (iI (t : Int))), (3, .ref m), (0, .ref b), (1, .ref a), (2, .int (iI (N : Int)))]) rfl) ?_
      refine pe_go (pc := 135) rfl (s_aload rfl) ?_
      refine pe_go (pc := 137) rfl (s_iconst (z := 0) rfl) ?_
      refine pe_go (pc := 138) rfl (s_lald (n := 3) (f := vp_updL (vp_updL (vp_updL (fun _ => 0) 0 (lI d0)) 1 (lI d1)) 2 (lI d2)) (v := lI d0) (gA hm get_new) (k := 0) (by omega) (by omega) (by decide) rfl) ?_
      refine pe_go (pc := 139) rfl (s_aload rfl) ?_
      refine pe_go (pc := 141) rfl (s_iconst (z := 1) rfl) ?_
      refine pe_go (pc := 142) rfl (s_lald (n := 3) (f := vp_updL (vp_updL (vp_updL (fun _ => 0) 0 (lI d0)) 1 (lI d1)) 2 (lI d2)) (v := lI d1) (gA hm get_new) (k := 1) (by omega) (by omega) (by decide) rfl) ?_
      refine pe_go (pc := 143) rfl s_ladd ?_
      refine pe_go (pc := 144) rfl (s_aload rfl) ?_
      refine pe_go (pc := 146) rfl (s_iconst (z := 2) rfl) ?_
      refine pe_go (pc := 147) rfl (s_lald (n := 3) (f := vp_updL (vp_updL (vp_updL (fun _ => 0) 0 (lI d0)) 1 (lI d1)) 2 (lI d2)) (v := lI d2) (gA hm get_new) (k := 2) (by omega) (by omega) (by decide) rfl) ?_
      refine pe_go (pc := 148) rfl s_ladd ?_
      refine pe_go (pc := 149) rfl (s_lload rfl) ?_
      refine pe_go (pc := 151) rfl s_lsub ?_
      refine pe_go (pc := 152) rfl (s_lstore (lv' := [(8, .long (lI (((d0 + d1) + d2) - M9))), (6, .long (lI M9)), (5, .ref (m + (l.length + 1))), (4, .int (iI (t : Int))), (3, .ref m), (0, .ref b), (1, .ref a), (2, .int (iI (N : Int)))]) rfl) ?_
      refine pe_go (pc := 154) rfl (s_aload_n rfl) ?_
      refine pe_go (pc := 155) rfl (s_iconst (z := 0) rfl) ?_
      refine pe_go (pc := 156) rfl s_dup2 ?_
      refine pe_go (pc := 157) rfl (s_iald (n := 2) (f := f) (v := f 0) (gA0 hm rfl) (k := 0) (by omega) (by omega) (by decide) rfl) ?_
      refine pe_go (pc := 158) rfl (s_lload rfl) ?_
      refine pe_go (pc := 160) rfl (s_lload rfl) ?_
      refine pe_go rfl (s_lcmp_lt ⟨by omega, by omega⟩ ⟨by omega, by omega⟩ c) ?_
      refine pe_go rfl (s_if_le_t ⟨by decide, by decide⟩ (by decide)) ?_
      refine pe_go (pc := 170) rfl (s_iconst (z := 0) rfl) ?_
      refine pe_go (pc := 171) rfl s_iadd0 ?_
      refine pe_go (pc := 172) rfl (s_iast (n := 2) (f := f) (w' := w ++ (.inl (0, 2, .inl (fun j => iI ((uZ f 0 (f 0)) j))) :: (l ++ [.inl (1, 3, .inr (.inl (vp_updL (vp_updL (vp_updL (fun _ => 0) 0 (lI d0)) 1 (lI d1)) 2 (lI d2))))]))) (gA0 hm rfl) (k := 0) (by omega) (by omega) (by decide) (gS0 hm rfl)) ?_
      refine pe_go (pc := 173) rfl (s_aload_n rfl) ?_
      refine pe_go (pc := 174) rfl (s_iconst (z := 1) rfl) ?_
      refine pe_go (pc := 175) rfl s_dup2 ?_
      refine pe_go (pc := 176) rfl (s_iald (n := 2) (f := uZ f 0 (f 0)) (v := f 1) (gA0 hm rfl) (k := 1) (by omega) (by omega) (by decide) rfl) ?_
      refine pe_go (pc := 177) rfl (s_lload rfl) ?_
      refine pe_go (pc := 179) rfl (s_lload rfl) ?_
      refine pe_go rfl (s_lcmp_lt ⟨by omega, by omega⟩ ⟨by omega, by omega⟩ c) ?_
      refine pe_go rfl (s_if_ne_t ⟨by decide, by decide⟩ (by decide)) ?_
      refine pe_go (pc := 189) rfl (s_iconst (z := 0) rfl) ?_
      refine pe_go (pc := 190) rfl s_iadd0 ?_
      refine pe_go (pc := 191) rfl (s_iast (n := 2) (f := uZ f 0 (f 0)) (w' := w ++ (.inl (0, 2, .inl (fun j => iI ((uZ (uZ f 0 (f 0)) 1 (f 1)) j))) :: (l ++ [.inl (1, 3, .inr (.inl (vp_updL (vp_updL (vp_updL (fun _ => 0) 0 (lI d0)) 1 (lI d1)) 2 (lI d2))))]))) (gA0 hm rfl) (k := 1) (by omega) (by omega) (by decide) (gS0 hm rfl)) ?_
      refine pe_go (pc := 192) rfl (s_iinc (x := (t : Int)) (y := ((t + 1 : Nat) : Int)) rfl (by omega) (lv' := [(4, .int (iI ((t + 1 : Nat) : Int))), (8, .long (lI (((d0 + d1) + d2) - M9))), (6, .long (lI M9)), (5, .ref (m + (l.length + 1))), (3, .ref m), (0, .ref b), (1, .ref a), (2, .int (iI (N : Int)))]) rfl) ?_
      refine pe_go (pc := 195) rfl s_goto ?_
      refine pe_few (lv := [(4, .int (iI ((t + 1 : Nat) : Int))), (3, .ref m), (0, .ref b), (1, .ref a), (2, .int (iI (N : Int)))]) rfl rfl (by intro q hq; simp only [List.mem_cons, List.not_mem_nil, or_false] at hq; rcases hq with rfl | rfl | rfl | rfl | rfl <;> rfl) ?_
      refine ih (t + 1) (uZ (uZ f 0 (f 0)) 1 (f 1)) (l ++ [.inl (1, 3, .inr (.inl (vp_updL (vp_updL (vp_updL (fun _ => 0) 0 (lI d0)) 1 (lI d1)) 2 (lI d2))))]) (by omega) ?_ ?_ (by rw [List.length_append, hl]; rfl) (hz' _ rfl)
      · show _ = X.obt S t + if 0 < X.ex S t then 1 else 0
        rw [show (uZ (uZ f 0 (f 0)) 1 (f 1)) 0 = f 0 from rfl, hf0, hex, if_neg (by omega)]
        omega
      · show _ = X.rgt S t + if X.ex S t = 0 then 1 else 0
        rw [show (uZ (uZ f 0 (f 0)) 1 (f 1)) 1 = f 1 from rfl, hf1, hex, if_neg (by omega)]
        omega
    · skip
      refine pe_go (pc := 7) rfl (s_iload rfl) ?_
      refine pe_go (pc := 9) rfl (s_iload_n rfl) ?_
      refine pe_go rfl (s_icmp_ge_f ⟨by omega, by omega⟩ ⟨by omega, by omega⟩ (by omega)) ?_
      refine pe_go (pc := 13) rfl (s_iconst (z := 3) rfl) ?_
      refine pe_go (pc := 14) rfl (s_newLP (k := l.length + 1) (l' := .inl (0, 2, .inl (fun j => iI (f j))) :: (l ++ [.inl (1, 3, .inr (.inl (fun _ => 0)))])) hm rfl rfl (by decide) rfl) ?_
      refine pe_go (pc := 16) rfl (s_astore (lv' := [(5, .ref (m + (l.length + 1))), (4, .int (iI (t : Int))), (3, .ref m), (0, .ref b), (1, .ref a), (2, .int (iI (N : Int)))]) rfl) ?_
      refine pe_go (pc := 18) rfl (s_iconst (z := 0) rfl) ?_
      refine pe_go (pc := 19) rfl (s_istore (lv' := [(6, .int (iI 0)), (5, .ref (m + (l.length + 1))), (4, .int (iI (t : Int))), (3, .ref m), (0, .ref b), (1, .ref a), (2, .int (iI (N : Int)))]) rfl) ?_
      refine pe_go (pc := 21) rfl (s_iload rfl) ?_
      refine pe_go (pc := 23) rfl (s_iconst (z := 3) rfl) ?_
      refine pe_go rfl (s_icmp_ge_f ⟨by decide, by decide⟩ ⟨by decide, by decide⟩ (by decide)) ?_
      refine pe_go (pc := 27) rfl (s_aload_n rfl) ?_
      refine pe_go (pc := 28) rfl (s_getf (v := .ref pa) (cell_app h0) rfl) ?_
      refine pe_go (pc := 31) rfl (s_aload_n rfl) ?_
      refine pe_go (pc := 32) rfl (s_iload rfl) ?_
      refine pe_go (pc := 34) rfl (s_iload rfl) ?_
      refine pe_call rfl (s_invV rfl (cell_app (OB.obj hb hO)) rfl rfl) (corner_at hb (OB_app hO _) hT hT2 (t := t) (k := 0) (by omega) (by decide) hc0) ?_
      refine pe_go (pc := 39) rfl (s_aald (cell_app h1) (k := p0) (by omega) (by omega) er0) ?_
      refine pe_go (pc := 40) rfl (s_astore (lv' := [(7, .ref r0), (6, .int (iI 0)), (5, .ref (m + (l.length + 1))), (4, .int (iI (t : Int))), (3, .ref m), (0, .ref b), (1, .ref a), (2, .int (iI (N : Int)))]) rfl) ?_
      refine pe_go (pc := 42) rfl (s_aload_n rfl) ?_
      refine pe_go (pc := 43) rfl (s_getf (v := .ref pa) (cell_app h0) rfl) ?_
      refine pe_go (pc := 46) rfl (s_aload_n rfl) ?_
      refine pe_go (pc := 47) rfl (s_iload rfl) ?_
      refine pe_go (pc := 49) rfl (s_iload rfl) ?_
      refine pe_go (pc := 51) rfl (s_iconst (z := 1) rfl) ?_
      refine pe_go (q := (53, [(7, .ref r0), (6, .int (iI 0)), (5, .ref (m + (l.length + 1))), (4, .int (iI (t : Int))), (3, .ref m), (0, .ref b), (1, .ref a), (2, .int (iI (N : Int)))], [.int (iI 1), .int (iI (t : Int)), .ref b, .ref pa], w ++ (.inl (0, 2, .inl (fun j => iI (f j))) :: (l ++ [.inl (1, 3, .inr (.inl (fun _ => 0)))])))) rfl s_iadd ?_
      refine pe_go (pc := 53) rfl (s_iconst (z := 3) rfl) ?_
      refine pe_go (pc := 54) rfl (s_irem ⟨by decide, by decide⟩ ⟨by decide, by decide⟩ (by decide) (by decide) (show Int.tmod 1 3 = 1 from by decide)) ?_
      refine pe_call rfl (s_invV rfl (cell_app (OB.obj hb hO)) rfl rfl) (corner_at hb (OB_app hO _) hT hT2 (t := t) (k := 1) (by omega) (by decide) hc1) ?_
      refine pe_go (pc := 58) rfl (s_aald (cell_app h1) (k := p1) (by omega) (by omega) er1) ?_
      refine pe_go (pc := 59) rfl (s_astore (lv' := [(8, .ref r1), (7, .ref r0), (6, .int (iI 0)), (5, .ref (m + (l.length + 1))), (4, .int (iI (t : Int))), (3, .ref m), (0, .ref b), (1, .ref a), (2, .int (iI (N : Int)))]) rfl) ?_
      refine pe_go (pc := 61) rfl (s_aload rfl) ?_
      refine pe_go (pc := 63) rfl (s_iload rfl) ?_
      refine pe_go (pc := 65) rfl (s_aload rfl) ?_
      refine pe_go (pc := 67) rfl (s_iconst (z := 0) rfl) ?_
      refine pe_go (pc := 68) rfl (s_iald (n := 3) (f := row3 (X.cx p0) (X.cy p0) (X.cz p0)) (v := X.cx p0) (cell_app hr0) (k := 0) (by omega) (by omega) (by decide) rfl) ?_
      refine pe_go (pc := 69) rfl (s_aload rfl) ?_
      refine pe_go (pc := 71) rfl (s_iconst (z := 0) rfl) ?_
      refine pe_go (pc := 72) rfl (s_iald (n := 3) (f := row3 (X.cx p1) (X.cy p1) (X.cz p1)) (v := X.cx p1) (cell_app hr1) (k := 0) (by omega) (by omega) (by decide) rfl) ?_
      refine pe_go (pc := 73) rfl s_isub ?_
      refine pe_go (pc := 74) rfl (s_i2l ⟨by omega, by omega⟩) ?_
      refine pe_go (pc := 75) rfl (s_aload rfl) ?_
      refine pe_go (pc := 77) rfl (s_iconst (z := 0) rfl) ?_
      refine pe_go (pc := 78) rfl (s_iald (n := 3) (f := row3 (X.cx p0) (X.cy p0) (X.cz p0)) (v := X.cx p0) (cell_app hr0) (k := 0) (by omega) (by omega) (by decide) rfl) ?_
      refine pe_go (pc := 79) rfl (s_aload rfl) ?_
      refine pe_go (pc := 81) rfl (s_iconst (z := 0) rfl) ?_
      refine pe_go (pc := 82) rfl (s_iald (n := 3) (f := row3 (X.cx p1) (X.cy p1) (X.cz p1)) (v := X.cx p1) (cell_app hr1) (k := 0) (by omega) (by omega) (by decide) rfl) ?_
      refine pe_go (pc := 83) rfl s_isub ?_
      refine pe_go (pc := 84) rfl (s_i2l ⟨by omega, by omega⟩) ?_
      refine pe_go (pc := 85) rfl s_lmul ?_
      refine pe_go (pc := 86) rfl (s_aload rfl) ?_
      refine pe_go (pc := 88) rfl (s_iconst (z := 1) rfl) ?_
      refine pe_go (pc := 89) rfl (s_iald (n := 3) (f := row3 (X.cx p0) (X.cy p0) (X.cz p0)) (v := X.cy p0) (cell_app hr0) (k := 1) (by omega) (by omega) (by decide) rfl) ?_
      refine pe_go (pc := 90) rfl (s_aload rfl) ?_
      refine pe_go (pc := 92) rfl (s_iconst (z := 1) rfl) ?_
      refine pe_go (pc := 93) rfl (s_iald (n := 3) (f := row3 (X.cx p1) (X.cy p1) (X.cz p1)) (v := X.cy p1) (cell_app hr1) (k := 1) (by omega) (by omega) (by decide) rfl) ?_
      refine pe_go (pc := 94) rfl s_isub ?_
      refine pe_go (pc := 95) rfl (s_i2l ⟨by omega, by omega⟩) ?_
      refine pe_go (pc := 96) rfl (s_aload rfl) ?_
      refine pe_go (pc := 98) rfl (s_iconst (z := 1) rfl) ?_
      refine pe_go (pc := 99) rfl (s_iald (n := 3) (f := row3 (X.cx p0) (X.cy p0) (X.cz p0)) (v := X.cy p0) (cell_app hr0) (k := 1) (by omega) (by omega) (by decide) rfl) ?_
      refine pe_go (pc := 100) rfl (s_aload rfl) ?_
      refine pe_go (pc := 102) rfl (s_iconst (z := 1) rfl) ?_
      refine pe_go (pc := 103) rfl (s_iald (n := 3) (f := row3 (X.cx p1) (X.cy p1) (X.cz p1)) (v := X.cy p1) (cell_app hr1) (k := 1) (by omega) (by omega) (by decide) rfl) ?_
      refine pe_go (pc := 104) rfl s_isub ?_
      refine pe_go (pc := 105) rfl (s_i2l ⟨by omega, by omega⟩) ?_
      refine pe_go (pc := 106) rfl s_lmul ?_
      refine pe_go (pc := 107) rfl s_ladd ?_
      rw [g0]
      refine pe_go (pc := 108) rfl (s_last (n := 3) (f := fun _ => 0) (w' := w ++ (.inl (0, 2, .inl (fun j => iI (f j))) :: (l ++ [.inl (1, 3, .inr (.inl (vp_updL (fun _ => 0) 0 (lI d0))))]))) (gA hm get_new) (k := 0) (by omega) (by omega) (by decide) (gS hm set_new)) ?_
      refine pe_go (pc := 109) rfl (s_iinc (x := 0) (y := 1) rfl (by omega) (lv' := [(6, .int (iI 1)), (8, .ref r1), (7, .ref r0), (5, .ref (m + (l.length + 1))), (4, .int (iI (t : Int))), (3, .ref m), (0, .ref b), (1, .ref a), (2, .int (iI (N : Int)))]) rfl) ?_
      refine pe_go (pc := 112) rfl s_goto ?_
      refine pe_go (pc := 21) rfl (s_iload rfl) ?_
      refine pe_go (pc := 23) rfl (s_iconst (z := 3) rfl) ?_
      refine pe_go rfl (s_icmp_ge_f ⟨by decide, by decide⟩ ⟨by decide, by decide⟩ (by decide)) ?_
      refine pe_go (pc := 27) rfl (s_aload_n rfl) ?_
      refine pe_go (pc := 28) rfl (s_getf (v := .ref pa) (cell_app h0) rfl) ?_
      refine pe_go (pc := 31) rfl (s_aload_n rfl) ?_
      refine pe_go (pc := 32) rfl (s_iload rfl) ?_
      refine pe_go (pc := 34) rfl (s_iload rfl) ?_
      refine pe_call rfl (s_invV rfl (cell_app (OB.obj hb hO)) rfl rfl) (corner_at hb (OB_app hO _) hT hT2 (t := t) (k := 1) (by omega) (by decide) hc1) ?_
      refine pe_go (pc := 39) rfl (s_aald (cell_app h1) (k := p1) (by omega) (by omega) er1) ?_
      refine pe_go (pc := 40) rfl (s_astore (lv' := [(7, .ref r1), (6, .int (iI 1)), (8, .ref r1), (5, .ref (m + (l.length + 1))), (4, .int (iI (t : Int))), (3, .ref m), (0, .ref b), (1, .ref a), (2, .int (iI (N : Int)))]) rfl) ?_
      refine pe_go (pc := 42) rfl (s_aload_n rfl) ?_
      refine pe_go (pc := 43) rfl (s_getf (v := .ref pa) (cell_app h0) rfl) ?_
      refine pe_go (pc := 46) rfl (s_aload_n rfl) ?_
      refine pe_go (pc := 47) rfl (s_iload rfl) ?_
      refine pe_go (pc := 49) rfl (s_iload rfl) ?_
      refine pe_go (pc := 51) rfl (s_iconst (z := 1) rfl) ?_
      refine pe_go (q := (53, [(7, .ref r1), (6, .int (iI 1)), (8, .ref r1), (5, .ref (m + (l.length + 1))), (4, .int (iI (t : Int))), (3, .ref m), (0, .ref b), (1, .ref a), (2, .int (iI (N : Int)))], [.int (iI 2), .int (iI (t : Int)), .ref b, .ref pa], w ++ (.inl (0, 2, .inl (fun j => iI (f j))) :: (l ++ [.inl (1, 3, .inr (.inl (vp_updL (fun _ => 0) 0 (lI d0))))])))) rfl s_iadd ?_
      refine pe_go (pc := 53) rfl (s_iconst (z := 3) rfl) ?_
      refine pe_go (pc := 54) rfl (s_irem ⟨by decide, by decide⟩ ⟨by decide, by decide⟩ (by decide) (by decide) (show Int.tmod 2 3 = 2 from by decide)) ?_
      refine pe_call rfl (s_invV rfl (cell_app (OB.obj hb hO)) rfl rfl) (corner_at hb (OB_app hO _) hT hT2 (t := t) (k := 2) (by omega) (by decide) hc2) ?_
      refine pe_go (pc := 58) rfl (s_aald (cell_app h1) (k := p2) (by omega) (by omega) er2) ?_
      refine pe_go (pc := 59) rfl (s_astore (lv' := [(8, .ref r2), (7, .ref r1), (6, .int (iI 1)), (5, .ref (m + (l.length + 1))), (4, .int (iI (t : Int))), (3, .ref m), (0, .ref b), (1, .ref a), (2, .int (iI (N : Int)))]) rfl) ?_
      refine pe_go (pc := 61) rfl (s_aload rfl) ?_
      refine pe_go (pc := 63) rfl (s_iload rfl) ?_
      refine pe_go (pc := 65) rfl (s_aload rfl) ?_
      refine pe_go (pc := 67) rfl (s_iconst (z := 0) rfl) ?_
      refine pe_go (pc := 68) rfl (s_iald (n := 3) (f := row3 (X.cx p1) (X.cy p1) (X.cz p1)) (v := X.cx p1) (cell_app hr1) (k := 0) (by omega) (by omega) (by decide) rfl) ?_
      refine pe_go (pc := 69) rfl (s_aload rfl) ?_
      refine pe_go (pc := 71) rfl (s_iconst (z := 0) rfl) ?_
      refine pe_go (pc := 72) rfl (s_iald (n := 3) (f := row3 (X.cx p2) (X.cy p2) (X.cz p2)) (v := X.cx p2) (cell_app hr2) (k := 0) (by omega) (by omega) (by decide) rfl) ?_
      refine pe_go (pc := 73) rfl s_isub ?_
      refine pe_go (pc := 74) rfl (s_i2l ⟨by omega, by omega⟩) ?_
      refine pe_go (pc := 75) rfl (s_aload rfl) ?_
      refine pe_go (pc := 77) rfl (s_iconst (z := 0) rfl) ?_
      refine pe_go (pc := 78) rfl (s_iald (n := 3) (f := row3 (X.cx p1) (X.cy p1) (X.cz p1)) (v := X.cx p1) (cell_app hr1) (k := 0) (by omega) (by omega) (by decide) rfl) ?_
      refine pe_go (pc := 79) rfl (s_aload rfl) ?_
      refine pe_go (pc := 81) rfl (s_iconst (z := 0) rfl) ?_
      refine pe_go (pc := 82) rfl (s_iald (n := 3) (f := row3 (X.cx p2) (X.cy p2) (X.cz p2)) (v := X.cx p2) (cell_app hr2) (k := 0) (by omega) (by omega) (by decide) rfl) ?_
      refine pe_go (pc := 83) rfl s_isub ?_
      refine pe_go (pc := 84) rfl (s_i2l ⟨by omega, by omega⟩) ?_
      refine pe_go (pc := 85) rfl s_lmul ?_
      refine pe_go (pc := 86) rfl (s_aload rfl) ?_
      refine pe_go (pc := 88) rfl (s_iconst (z := 1) rfl) ?_
      refine pe_go (pc := 89) rfl (s_iald (n := 3) (f := row3 (X.cx p1) (X.cy p1) (X.cz p1)) (v := X.cy p1) (cell_app hr1) (k := 1) (by omega) (by omega) (by decide) rfl) ?_
      refine pe_go (pc := 90) rfl (s_aload rfl) ?_
      refine pe_go (pc := 92) rfl (s_iconst (z := 1) rfl) ?_
      refine pe_go (pc := 93) rfl (s_iald (n := 3) (f := row3 (X.cx p2) (X.cy p2) (X.cz p2)) (v := X.cy p2) (cell_app hr2) (k := 1) (by omega) (by omega) (by decide) rfl) ?_
      refine pe_go (pc := 94) rfl s_isub ?_
      refine pe_go (pc := 95) rfl (s_i2l ⟨by omega, by omega⟩) ?_
      refine pe_go (pc := 96) rfl (s_aload rfl) ?_
      refine pe_go (pc := 98) rfl (s_iconst (z := 1) rfl) ?_
      refine pe_go (pc := 99) rfl (s_iald (n := 3) (f := row3 (X.cx p1) (X.cy p1) (X.cz p1)) (v := X.cy p1) (cell_app hr1) (k := 1) (by omega) (by omega) (by decide) rfl) ?_
      refine pe_go (pc := 100) rfl (s_aload rfl) ?_
      refine pe_go (pc := 102) rfl (s_iconst (z := 1) rfl) ?_
      refine pe_go (pc := 103) rfl (s_iald (n := 3) (f := row3 (X.cx p2) (X.cy p2) (X.cz p2)) (v := X.cy p2) (cell_app hr2) (k := 1) (by omega) (by omega) (by decide) rfl) ?_
      refine pe_go (pc := 104) rfl s_isub ?_
      refine pe_go (pc := 105) rfl (s_i2l ⟨by omega, by omega⟩) ?_
      refine pe_go (pc := 106) rfl s_lmul ?_
      refine pe_go (pc := 107) rfl s_ladd ?_
      rw [g1]
      refine pe_go (pc := 108) rfl (s_last (n := 3) (f := vp_updL (fun _ => 0) 0 (lI d0)) (w' := w ++ (.inl (0, 2, .inl (fun j => iI (f j))) :: (l ++ [.inl (1, 3, .inr (.inl (vp_updL (vp_updL (fun _ => 0) 0 (lI d0)) 1 (lI d1))))]))) (gA hm get_new) (k := 1) (by omega) (by omega) (by decide) (gS hm set_new)) ?_
      refine pe_go (pc := 109) rfl (s_iinc (x := 1) (y := 2) rfl (by omega) (lv' := [(6, .int (iI 2)), (8, .ref r2), (7, .ref r1), (5, .ref (m + (l.length + 1))), (4, .int (iI (t : Int))), (3, .ref m), (0, .ref b), (1, .ref a), (2, .int (iI (N : Int)))]) rfl) ?_
      refine pe_go (pc := 112) rfl s_goto ?_
      refine pe_go (pc := 21) rfl (s_iload rfl) ?_
      refine pe_go (pc := 23) rfl (s_iconst (z := 3) rfl) ?_
      refine pe_go rfl (s_icmp_ge_f ⟨by decide, by decide⟩ ⟨by decide, by decide⟩ (by decide)) ?_
      refine pe_go (pc := 27) rfl (s_aload_n rfl) ?_
      refine pe_go (pc := 28) rfl (s_getf (v := .ref pa) (cell_app h0) rfl) ?_
      refine pe_go (pc := 31) rfl (s_aload_n rfl) ?_
      refine pe_go (pc := 32) rfl (s_iload rfl) ?_
      refine pe_go (pc := 34) rfl (s_iload rfl) ?_
      refine pe_call rfl (s_invV rfl (cell_app (OB.obj hb hO)) rfl rfl) (corner_at hb (OB_app hO _) hT hT2 (t := t) (k := 2) (by omega) (by decide) hc2) ?_
      refine pe_go (pc := 39) rfl (s_aald (cell_app h1) (k := p2) (by omega) (by omega) er2) ?_
      refine pe_go (pc := 40) rfl (s_astore (lv' := [(7, .ref r2), (6, .int (iI 2)), (8, .ref r2), (5, .ref (m + (l.length + 1))), (4, .int (iI (t : Int))), (3, .ref m), (0, .ref b), (1, .ref a), (2, .int (iI (N : Int)))]) rfl) ?_
      refine pe_go (pc := 42) rfl (s_aload_n rfl) ?_
      refine pe_go (pc := 43) rfl (s_getf (v := .ref pa) (cell_app h0) rfl) ?_
      refine pe_go (pc := 46) rfl (s_aload_n rfl) ?_
      refine pe_go (pc := 47) rfl (s_iload rfl) ?_
      refine pe_go (pc := 49) rfl (s_iload rfl) ?_
      refine pe_go (pc := 51) rfl (s_iconst (z := 1) rfl) ?_
      refine pe_go (q := (53, [(7, .ref r2), (6, .int (iI 2)), (8, .ref r2), (5, .ref (m + (l.length + 1))), (4, .int (iI (t : Int))), (3, .ref m), (0, .ref b), (1, .ref a), (2, .int (iI (N : Int)))], [.int (iI 3), .int (iI (t : Int)), .ref b, .ref pa], w ++ (.inl (0, 2, .inl (fun j => iI (f j))) :: (l ++ [.inl (1, 3, .inr (.inl (vp_updL (vp_updL (fun _ => 0) 0 (lI d0)) 1 (lI d1))))])))) rfl s_iadd ?_
      refine pe_go (pc := 53) rfl (s_iconst (z := 3) rfl) ?_
      refine pe_go (pc := 54) rfl (s_irem ⟨by decide, by decide⟩ ⟨by decide, by decide⟩ (by decide) (by decide) (show Int.tmod 3 3 = 0 from by decide)) ?_
      refine pe_call rfl (s_invV rfl (cell_app (OB.obj hb hO)) rfl rfl) (corner_at hb (OB_app hO _) hT hT2 (t := t) (k := 0) (by omega) (by decide) hc0) ?_
      refine pe_go (pc := 58) rfl (s_aald (cell_app h1) (k := p0) (by omega) (by omega) er0) ?_
      refine pe_go (pc := 59) rfl (s_astore (lv' := [(8, .ref r0), (7, .ref r2), (6, .int (iI 2)), (5, .ref (m + (l.length + 1))), (4, .int (iI (t : Int))), (3, .ref m), (0, .ref b), (1, .ref a), (2, .int (iI (N : Int)))]) rfl) ?_
      refine pe_go (pc := 61) rfl (s_aload rfl) ?_
      refine pe_go (pc := 63) rfl (s_iload rfl) ?_
      refine pe_go (pc := 65) rfl (s_aload rfl) ?_
      refine pe_go (pc := 67) rfl (s_iconst (z := 0) rfl) ?_
      refine pe_go (pc := 68) rfl (s_iald (n := 3) (f := row3 (X.cx p2) (X.cy p2) (X.cz p2)) (v := X.cx p2) (cell_app hr2) (k := 0) (by omega) (by omega) (by decide) rfl) ?_
      refine pe_go (pc := 69) rfl (s_aload rfl) ?_
      refine pe_go (pc := 71) rfl (s_iconst (z := 0) rfl) ?_
      refine pe_go (pc := 72) rfl (s_iald (n := 3) (f := row3 (X.cx p0) (X.cy p0) (X.cz p0)) (v := X.cx p0) (cell_app hr0) (k := 0) (by omega) (by omega) (by decide) rfl) ?_
      refine pe_go (pc := 73) rfl s_isub ?_
      refine pe_go (pc := 74) rfl (s_i2l ⟨by omega, by omega⟩) ?_
      refine pe_go (pc := 75) rfl (s_aload rfl) ?_
      refine pe_go (pc := 77) rfl (s_iconst (z := 0) rfl) ?_
      refine pe_go (pc := 78) rfl (s_iald (n := 3) (f := row3 (X.cx p2) (X.cy p2) (X.cz p2)) (v := X.cx p2) (cell_app hr2) (k := 0) (by omega) (by omega) (by decide) rfl) ?_
      refine pe_go (pc := 79) rfl (s_aload rfl) ?_
      refine pe_go (pc := 81) rfl (s_iconst (z := 0) rfl) ?_
      refine pe_go (pc := 82) rfl (s_iald (n := 3) (f := row3 (X.cx p0) (X.cy p0) (X.cz p0)) (v := X.cx p0) (cell_app hr0) (k := 0) (by omega) (by omega) (by decide) rfl) ?_
      refine pe_go (pc := 83) rfl s_isub ?_
      refine pe_go (pc := 84) rfl (s_i2l ⟨by omega, by omega⟩) ?_
      refine pe_go (pc := 85) rfl s_lmul ?_
      refine pe_go (pc := 86) rfl (s_aload rfl) ?_
      refine pe_go (pc := 88) rfl (s_iconst (z := 1) rfl) ?_
      refine pe_go (pc := 89) rfl (s_iald (n := 3) (f := row3 (X.cx p2) (X.cy p2) (X.cz p2)) (v := X.cy p2) (cell_app hr2) (k := 1) (by omega) (by omega) (by decide) rfl) ?_
      refine pe_go (pc := 90) rfl (s_aload rfl) ?_
      refine pe_go (pc := 92) rfl (s_iconst (z := 1) rfl) ?_
      refine pe_go (pc := 93) rfl (s_iald (n := 3) (f := row3 (X.cx p0) (X.cy p0) (X.cz p0)) (v := X.cy p0) (cell_app hr0) (k := 1) (by omega) (by omega) (by decide) rfl) ?_
      refine pe_go (pc := 94) rfl s_isub ?_
      refine pe_go (pc := 95) rfl (s_i2l ⟨by omega, by omega⟩) ?_
      refine pe_go (pc := 96) rfl (s_aload rfl) ?_
      refine pe_go (pc := 98) rfl (s_iconst (z := 1) rfl) ?_
      refine pe_go (pc := 99) rfl (s_iald (n := 3) (f := row3 (X.cx p2) (X.cy p2) (X.cz p2)) (v := X.cy p2) (cell_app hr2) (k := 1) (by omega) (by omega) (by decide) rfl) ?_
      refine pe_go (pc := 100) rfl (s_aload rfl) ?_
      refine pe_go (pc := 102) rfl (s_iconst (z := 1) rfl) ?_
      refine pe_go (pc := 103) rfl (s_iald (n := 3) (f := row3 (X.cx p0) (X.cy p0) (X.cz p0)) (v := X.cy p0) (cell_app hr0) (k := 1) (by omega) (by omega) (by decide) rfl) ?_
      refine pe_go (pc := 104) rfl s_isub ?_
      refine pe_go (pc := 105) rfl (s_i2l ⟨by omega, by omega⟩) ?_
      refine pe_go (pc := 106) rfl s_lmul ?_
      refine pe_go (pc := 107) rfl s_ladd ?_
      rw [g2]
      refine pe_go (pc := 108) rfl (s_last (n := 3) (f := vp_updL (vp_updL (fun _ => 0) 0 (lI d0)) 1 (lI d1)) (w' := w ++ (.inl (0, 2, .inl (fun j => iI (f j))) :: (l ++ [.inl (1, 3, .inr (.inl (vp_updL (vp_updL (vp_updL (fun _ => 0) 0 (lI d0)) 1 (lI d1)) 2 (lI d2))))]))) (gA hm get_new) (k := 2) (by omega) (by omega) (by decide) (gS hm set_new)) ?_
      refine pe_go (pc := 109) rfl (s_iinc (x := 2) (y := 3) rfl (by omega) (lv' := [(6, .int (iI 3)), (8, .ref r0), (7, .ref r2), (5, .ref (m + (l.length + 1))), (4, .int (iI (t : Int))), (3, .ref m), (0, .ref b), (1, .ref a), (2, .int (iI (N : Int)))]) rfl) ?_
      refine pe_go (pc := 112) rfl s_goto ?_
      refine pe_go (pc := 21) rfl (s_iload rfl) ?_
      refine pe_go (pc := 23) rfl (s_iconst (z := 3) rfl) ?_
      refine pe_go rfl (s_icmp_ge_t ⟨by decide, by decide⟩ ⟨by decide, by decide⟩ (by decide)) ?_
      refine pe_go (pc := 115) rfl (s_aload rfl) ?_
      refine pe_go (pc := 117) rfl (s_iconst (z := 0) rfl) ?_
      refine pe_go (pc := 118) rfl (s_lald (n := 3) (f := vp_updL (vp_updL (vp_updL (fun _ => 0) 0 (lI d0)) 1 (lI d1)) 2 (lI d2)) (v := lI d0) (gA hm get_new) (k := 0) (by omega) (by omega) (by decide) rfl) ?_
      refine pe_go (pc := 119) rfl (s_aload rfl) ?_
      refine pe_go (pc := 121) rfl (s_iconst (z := 1) rfl) ?_
      refine pe_go (pc := 122) rfl (s_lald (n := 3) (f := vp_updL (vp_updL (vp_updL (fun _ => 0) 0 (lI d0)) 1 (lI d1)) 2 (lI d2)) (v := lI d1) (gA hm get_new) (k := 1) (by omega) (by omega) (by decide) rfl) ?_
      refine pe_go (pc := 123) rfl (s_aload rfl) ?_
      refine pe_go (pc := 125) rfl (s_iconst (z := 2) rfl) ?_
      refine pe_go (pc := 126) rfl (s_lald (n := 3) (f := vp_updL (vp_updL (vp_updL (fun _ => 0) 0 (lI d0)) 1 (lI d1)) 2 (lI d2)) (v := lI d2) (gA hm get_new) (k := 2) (by omega) (by omega) (by decide) rfl) ?_
      refine pe_call rfl (s_invS rfl rfl rfl) (c_maxL (x := d1) (y := d2) ⟨by omega, by omega⟩ ⟨by omega, by omega⟩) ?_
      refine pe_call rfl (s_invS rfl rfl rfl) (c_maxL (x := d0) (y := zmaxL d1 d2) ⟨by omega, by omega⟩ ⟨by omega, by omega⟩) ?_
      rw [gM]
      refine pe_go (pc := 133) rfl (s_lstore (lv' := [(6, .long (lI M9)), (8, .ref r0), (5, .ref (m + (l.length + 1))), (4, .int (iI (t : Int))), (3, .ref m), (0, .ref b), (1, .ref a), (2, .int (iI (N : Int)))]) rfl) ?_
      refine pe_go (pc := 135) rfl (s_aload rfl) ?_
      refine pe_go (pc := 137) rfl (s_iconst (z := 0) rfl) ?_
      refine pe_go (pc := 138) rfl (s_lald (n := 3) (f := vp_updL (vp_updL (vp_updL (fun _ => 0) 0 (lI d0)) 1 (lI d1)) 2 (lI d2)) (v := lI d0) (gA hm get_new) (k := 0) (by omega) (by omega) (by decide) rfl) ?_
      refine pe_go (pc := 139) rfl (s_aload rfl) ?_
      refine pe_go (pc := 141) rfl (s_iconst (z := 1) rfl) ?_
      refine pe_go (pc := 142) rfl (s_lald (n := 3) (f := vp_updL (vp_updL (vp_updL (fun _ => 0) 0 (lI d0)) 1 (lI d1)) 2 (lI d2)) (v := lI d1) (gA hm get_new) (k := 1) (by omega) (by omega) (by decide) rfl) ?_
      refine pe_go (pc := 143) rfl s_ladd ?_
      refine pe_go (pc := 144) rfl (s_aload rfl) ?_
      refine pe_go (pc := 146) rfl (s_iconst (z := 2) rfl) ?_
      refine pe_go (pc := 147) rfl (s_lald (n := 3) (f := vp_updL (vp_updL (vp_updL (fun _ => 0) 0 (lI d0)) 1 (lI d1)) 2 (lI d2)) (v := lI d2) (gA hm get_new) (k := 2) (by omega) (by omega) (by decide) rfl) ?_
      refine pe_go (pc := 148) rfl s_ladd ?_
      refine pe_go (pc := 149) rfl (s_lload rfl) ?_
      refine pe_go (pc := 151) rfl s_lsub ?_
      refine pe_go (pc := 152) rfl (s_lstore (lv' := [(8, .long (lI (((d0 + d1) + d2) - M9))), (6, .long (lI M9)), (5, .ref (m + (l.length + 1))), (4, .int (iI (t : Int))), (3, .ref m), (0, .ref b), (1, .ref a), (2, .int (iI (N : Int)))]) rfl) ?_
      refine pe_go (pc := 154) rfl (s_aload_n rfl) ?_
      refine pe_go (pc := 155) rfl (s_iconst (z := 0) rfl) ?_
      refine pe_go (pc := 156) rfl s_dup2 ?_
      refine pe_go (pc := 157) rfl (s_iald (n := 2) (f := f) (v := f 0) (gA0 hm rfl) (k := 0) (by omega) (by omega) (by decide) rfl) ?_
      refine pe_go (pc := 158) rfl (s_lload rfl) ?_
      refine pe_go (pc := 160) rfl (s_lload rfl) ?_
      refine pe_go rfl (s_lcmp_eq c) ?_
      refine pe_go rfl (s_if_le_t ⟨by decide, by decide⟩ (by decide)) ?_
      refine pe_go (pc := 170) rfl (s_iconst (z := 0) rfl) ?_
      refine pe_go (pc := 171) rfl s_iadd0 ?_
      refine pe_go (pc := 172) rfl (s_iast (n := 2) (f := f) (w' := w ++ (.inl (0, 2, .inl (fun j => iI ((uZ f 0 (f 0)) j))) :: (l ++ [.inl (1, 3, .inr (.inl (vp_updL (vp_updL (vp_updL (fun _ => 0) 0 (lI d0)) 1 (lI d1)) 2 (lI d2))))]))) (gA0 hm rfl) (k := 0) (by omega) (by omega) (by decide) (gS0 hm rfl)) ?_
      refine pe_go (pc := 173) rfl (s_aload_n rfl) ?_
      refine pe_go (pc := 174) rfl (s_iconst (z := 1) rfl) ?_
      refine pe_go (pc := 175) rfl s_dup2 ?_
      refine pe_go (pc := 176) rfl (s_iald (n := 2) (f := uZ f 0 (f 0)) (v := f 1) (gA0 hm rfl) (k := 1) (by omega) (by omega) (by decide) rfl) ?_
      refine pe_go (pc := 177) rfl (s_lload rfl) ?_
      refine pe_go (pc := 179) rfl (s_lload rfl) ?_
      refine pe_go rfl (s_lcmp_eq c) ?_
      refine pe_go rfl (s_if_ne_f ⟨by decide, by decide⟩ (by decide)) ?_
      refine pe_go (pc := 185) rfl (s_iconst (z := 1) rfl) ?_
      refine pe_go (pc := 186) rfl s_goto ?_
      refine pe_go (pc := 190) rfl s_iadd ?_
      refine pe_go (pc := 191) rfl (s_iast (n := 2) (f := uZ f 0 (f 0)) (w' := w ++ (.inl (0, 2, .inl (fun j => iI ((uZ (uZ f 0 (f 0)) 1 ((f 1) + 1)) j))) :: (l ++ [.inl (1, 3, .inr (.inl (vp_updL (vp_updL (vp_updL (fun _ => 0) 0 (lI d0)) 1 (lI d1)) 2 (lI d2))))]))) (gA0 hm rfl) (k := 1) (by omega) (by omega) (by decide) (gS0 hm rfl)) ?_
      refine pe_go (pc := 192) rfl (s_iinc (x := (t : Int)) (y := ((t + 1 : Nat) : Int)) rfl (by omega) (lv' := [(4, .int (iI ((t + 1 : Nat) : Int))), (8, .long (lI (((d0 + d1) + d2) - M9))), (6, .long (lI M9)), (5, .ref (m + (l.length + 1))), (3, .ref m), (0, .ref b), (1, .ref a), (2, .int (iI (N : Int)))]) rfl) ?_
      refine pe_go (pc := 195) rfl s_goto ?_
      refine pe_few (lv := [(4, .int (iI ((t + 1 : Nat) : Int))), (3, .ref m), (0, .ref b), (1, .ref a), (2, .int (iI (N : Int)))]) rfl rfl (by intro q hq; simp only [List.mem_cons, List.not_mem_nil, or_false] at hq; rcases hq with rfl | rfl | rfl | rfl | rfl <;> rfl) ?_
      refine ih (t + 1) (uZ (uZ f 0 (f 0)) 1 ((f 1) + 1)) (l ++ [.inl (1, 3, .inr (.inl (vp_updL (vp_updL (vp_updL (fun _ => 0) 0 (lI d0)) 1 (lI d1)) 2 (lI d2))))]) (by omega) ?_ ?_ (by rw [List.length_append, hl]; rfl) (hz' _ rfl)
      · show _ = X.obt S t + if 0 < X.ex S t then 1 else 0
        rw [show (uZ (uZ f 0 (f 0)) 1 (f 1 + 1)) 0 = f 0 from rfl, hf0, hex, if_neg (by omega)]
        omega
      · show _ = X.rgt S t + if X.ex S t = 0 then 1 else 0
        rw [show (uZ (uZ f 0 (f 0)) 1 (f 1 + 1)) 1 = f 1 + 1 from rfl, hf1, hex, if_pos (by omega)]
        skip
    · skip
      refine pe_go (pc := 7) rfl (s_iload rfl) ?_
      refine pe_go (pc := 9) rfl (s_iload_n rfl) ?_
      refine pe_go rfl (s_icmp_ge_f ⟨by omega, by omega⟩ ⟨by omega, by omega⟩ (by omega)) ?_
      refine pe_go (pc := 13) rfl (s_iconst (z := 3) rfl) ?_
      refine pe_go (pc := 14) rfl (s_newLP (k := l.length + 1) (l' := .inl (0, 2, .inl (fun j => iI (f j))) :: (l ++ [.inl (1, 3, .inr (.inl (fun _ => 0)))])) hm rfl rfl (by decide) rfl) ?_
      refine pe_go (pc := 16) rfl (s_astore (lv' := [(5, .ref (m + (l.length + 1))), (4, .int (iI (t : Int))), (3, .ref m), (0, .ref b), (1, .ref a), (2, .int (iI (N : Int)))]) rfl) ?_
      refine pe_go (pc := 18) rfl (s_iconst (z := 0) rfl) ?_
      refine pe_go (pc := 19) rfl (s_istore (lv' := [(6, .int (iI 0)), (5, .ref (m + (l.length + 1))), (4, .int (iI (t : Int))), (3, .ref m), (0, .ref b), (1, .ref a), (2, .int (iI (N : Int)))]) rfl) ?_
      refine pe_go (pc := 21) rfl (s_iload rfl) ?_
      refine pe_go (pc := 23) rfl (s_iconst (z := 3) rfl) ?_
      refine pe_go rfl (s_icmp_ge_f ⟨by decide, by decide⟩ ⟨by decide, by decide⟩ (by decide)) ?_
      refine pe_go (pc := 27) rfl (s_aload_n rfl) ?_
      refine pe_go (pc := 28) rfl (s_getf (v := .ref pa) (cell_app h0) rfl) ?_
      refine pe_go (pc := 31) rfl (s_aload_n rfl) ?_
      refine pe_go (pc := 32) rfl (s_iload rfl) ?_
      refine pe_go (pc := 34) rfl (s_iload rfl) ?_
      refine pe_call rfl (s_invV rfl (cell_app (OB.obj hb hO)) rfl rfl) (corner_at hb (OB_app hO _) hT hT2 (t := t) (k := 0) (by omega) (by decide) hc0) ?_
      refine pe_go (pc := 39) rfl (s_aald (cell_app h1) (k := p0) (by omega) (by omega) er0) ?_
      refine pe_go (pc := 40) rfl (s_astore (lv' := [(7, .ref r0), (6, .int (iI 0)), (5, .ref (m + (l.length + 1))), (4, .int (iI (t : Int))), (3, .ref m), (0, .ref b), (1, .ref a), (2, .int (iI (N : Int)))]) rfl) ?_
      refine pe_go (pc := 42) rfl (s_aload_n rfl) ?_
      refine pe_go (pc := 43) rfl (s_getf (v := .ref pa) (cell_app h0) rfl) ?_
      refine pe_go (pc := 46) rfl (s_aload_n rfl) ?_
      refine pe_go (pc := 47) rfl (s_iload rfl) ?_
      refine pe_go (pc := 49) rfl (s_iload rfl) ?_
      refine pe_go (pc := 51) rfl (s_iconst (z := 1) rfl) ?_
      refine pe_go (q := (53, [(7, .ref r0), (6, .int (iI 0)), (5, .ref (m + (l.length + 1))), (4, .int (iI (t : Int))), (3, .ref m), (0, .ref b), (1, .ref a), (2, .int (iI (N : Int)))], [.int (iI 1), .int (iI (t : Int)), .ref b, .ref pa], w ++ (.inl (0, 2, .inl (fun j => iI (f j))) :: (l ++ [.inl (1, 3, .inr (.inl (fun _ => 0)))])))) rfl s_iadd ?_
      refine pe_go (pc := 53) rfl (s_iconst (z := 3) rfl) ?_
      refine pe_go (pc := 54) rfl (s_irem ⟨by decide, by decide⟩ ⟨by decide, by decide⟩ (by decide) (by decide) (show Int.tmod 1 3 = 1 from by decide)) ?_
      refine pe_call rfl (s_invV rfl (cell_app (OB.obj hb hO)) rfl rfl) (corner_at hb (OB_app hO _) hT hT2 (t := t) (k := 1) (by omega) (by decide) hc1) ?_
      refine pe_go (pc := 58) rfl (s_aald (cell_app h1) (k := p1) (by omega) (by omega) er1) ?_
      refine pe_go (pc := 59) rfl (s_astore (lv' := [(8, .ref r1), (7, .ref r0), (6, .int (iI 0)), (5, .ref (m + (l.length + 1))), (4, .int (iI (t : Int))), (3, .ref m), (0, .ref b), (1, .ref a), (2, .int (iI (N : Int)))]) rfl) ?_
      refine pe_go (pc := 61) rfl (s_aload rfl) ?_
      refine pe_go (pc := 63) rfl (s_iload rfl) ?_
      refine pe_go (pc := 65) rfl (s_aload rfl) ?_
      refine pe_go (pc := 67) rfl (s_iconst (z := 0) rfl) ?_
      refine pe_go (pc := 68) rfl (s_iald (n := 3) (f := row3 (X.cx p0) (X.cy p0) (X.cz p0)) (v := X.cx p0) (cell_app hr0) (k := 0) (by omega) (by omega) (by decide) rfl) ?_
      refine pe_go (pc := 69) rfl (s_aload rfl) ?_
      refine pe_go (pc := 71) rfl (s_iconst (z := 0) rfl) ?_
      refine pe_go (pc := 72) rfl (s_iald (n := 3) (f := row3 (X.cx p1) (X.cy p1) (X.cz p1)) (v := X.cx p1) (cell_app hr1) (k := 0) (by omega) (by omega) (by decide) rfl) ?_
      refine pe_go (pc := 73) rfl s_isub ?_
      refine pe_go (pc := 74) rfl (s_i2l ⟨by omega, by omega⟩) ?_
      refine pe_go (pc := 75) rfl (s_aload rfl) ?_
      refine pe_go (pc := 77) rfl (s_iconst (z := 0) rfl) ?_
      refine pe_go (pc := 78) rfl (s_iald (n := 3) (f := row3 (X.cx p0) (X.cy p0) (X.cz p0)) (v := X.cx p0) (cell_app hr0) (k := 0) (by omega) (by omega) (by decide) rfl) ?_
      refine pe_go (pc := 79) rfl (s_aload rfl) ?_
      refine pe_go (pc := 81) rfl (s_iconst (z := 0) rfl) ?_
      refine pe_go (pc := 82) rfl (s_iald (n := 3) (f := row3 (X.cx p1) (X.cy p1) (X.cz p1)) (v := X.cx p1) (cell_app hr1) (k := 0) (by omega) (by omega) (by decide) rfl) ?_
      refine pe_go (pc := 83) rfl s_isub ?_
      refine pe_go (pc := 84) rfl (s_i2l ⟨by omega, by omega⟩) ?_
      refine pe_go (pc := 85) rfl s_lmul ?_
      refine pe_go (pc := 86) rfl (s_aload rfl) ?_
      refine pe_go (pc := 88) rfl (s_iconst (z := 1) rfl) ?_
      refine pe_go (pc := 89) rfl (s_iald (n := 3) (f := row3 (X.cx p0) (X.cy p0) (X.cz p0)) (v := X.cy p0) (cell_app hr0) (k := 1) (by omega) (by omega) (by decide) rfl) ?_
      refine pe_go (pc := 90) rfl (s_aload rfl) ?_
      refine pe_go (pc := 92) rfl (s_iconst (z := 1) rfl) ?_
      refine pe_go (pc := 93) rfl (s_iald (n := 3) (f := row3 (X.cx p1) (X.cy p1) (X.cz p1)) (v := X.cy p1) (cell_app hr1) (k := 1) (by omega) (by omega) (by decide) rfl) ?_
      refine pe_go (pc := 94) rfl s_isub ?_
      refine pe_go (pc := 95) rfl (s_i2l ⟨by omega, by omega⟩) ?_
      refine pe_go (pc := 96) rfl (s_aload rfl) ?_
      refine pe_go (pc := 98) rfl (s_iconst (z := 1) rfl) ?_
      refine pe_go (pc := 99) rfl (s_iald (n := 3) (f := row3 (X.cx p0) (X.cy p0) (X.cz p0)) (v := X.cy p0) (cell_app hr0) (k := 1) (by omega) (by omega) (by decide) rfl) ?_
      refine pe_go (pc := 100) rfl (s_aload rfl) ?_
      refine pe_go (pc := 102) rfl (s_iconst (z := 1) rfl) ?_
      refine pe_go (pc := 103) rfl (s_iald (n := 3) (f := row3 (X.cx p1) (X.cy p1) (X.cz p1)) (v := X.cy p1) (cell_app hr1) (k := 1) (by omega) (by omega) (by decide) rfl) ?_
      refine pe_go (pc := 104) rfl s_isub ?_
      refine pe_go (pc := 105) rfl (s_i2l ⟨by omega, by omega⟩) ?_
      refine pe_go (pc := 106) rfl s_lmul ?_
      refine pe_go (pc := 107) rfl s_ladd ?_
      rw [g0]
      refine pe_go (pc := 108) rfl (s_last (n := 3) (f := fun _ => 0) (w' := w ++ (.inl (0, 2, .inl (fun j => iI (f j))) :: (l ++ [.inl (1, 3, .inr (.inl (vp_updL (fun _ => 0) 0 (lI d0))))]))) (gA hm get_new) (k := 0) (by omega) (by omega) (by decide) (gS hm set_new)) ?_
      refine pe_go (pc := 109) rfl (s_iinc (x := 0) (y := 1) rfl (by omega) (lv' := [(6, .int (iI 1)), (8, .ref r1), (7, .ref r0), (5, .ref (m + (l.length + 1))), (4, .int (iI (t : Int))), (3, .ref m), (0, .ref b), (1, .ref a), (2, .int (iI (N : Int)))]) rfl) ?_
      refine pe_go (pc := 112) rfl s_goto ?_
      refine pe_go (pc := 21) rfl (s_iload rfl) ?_
      refine pe_go (pc := 23) rfl (s_iconst (z := 3) rfl) ?_
      refine pe_go rfl (s_icmp_ge_f ⟨by decide, by decide⟩ ⟨by decide, by decide⟩ (by decide)) ?_
      refine pe_go (pc := 27) rfl (s_aload_n rfl) ?_
      refine pe_go (pc := 28) rfl (s_getf (v := .ref pa) (cell_app h0) rfl) ?_
      refine pe_go (pc := 31) rfl (s_aload_n rfl) ?_
      refine pe_go (pc := 32) rfl (s_iload rfl) ?_
      refine pe_go (pc := 34) rfl (s_iload rfl) ?_
      refine pe_call rfl (s_invV rfl (cell_app (OB.obj hb hO)) rfl rfl) (corner_at hb (OB_app hO _) hT hT2 (t := t) (k := 1) (by omega) (by decide) hc1) ?_
      refine pe_go (pc := 39) rfl (s_aald (cell_app h1) (k := p1) (by omega) (by omega) er1) ?_
      refine pe_go (pc := 40) rfl (s_astore (lv' := [(7, .ref r1), (6, .int (iI 1)), (8, .ref r1), (5, .ref (m + (l.length + 1))), (4, .int (iI (t : Int))), (3, .ref m), (0, .ref b), (1, .ref a), (2, .int (iI (N : Int)))]) rfl) ?_
      refine pe_go (pc := 42) rfl (s_aload_n rfl) ?_
      refine pe_go (pc := 43) rfl (s_getf (v := .ref pa) (cell_app h0) rfl) ?_
      refine pe_go (pc := 46) rfl (s_aload_n rfl) ?_
      refine pe_go (pc := 47) rfl (s_iload rfl) ?_
      refine pe_go (pc := 49) rfl (s_iload rfl) ?_
      refine pe_go (pc := 51) rfl (s_iconst (z := 1) rfl) ?_
      refine pe_go (q := (53, [(7, .ref r1), (6, .int (iI 1)), (8, .ref r1), (5, .ref (m + (l.length + 1))), (4, .int (iI (t : Int))), (3, .ref m), (0, .ref b), (1, .ref a), (2, .int (iI (N : Int)))], [.int (iI 2), .int (iI (t : Int)), .ref b, .ref pa], w ++ (.inl (0, 2, .inl (fun j => iI (f j))) :: (l ++ [.inl (1, 3, .inr (.inl (vp_updL (fun _ => 0) 0 (lI d0))))])))) rfl s_iadd ?_
      refine pe_go (pc := 53) rfl (s_iconst (z := 3) rfl) ?_
      refine pe_go (pc := 54) rfl (s_irem ⟨by decide, by decide⟩ ⟨by decide, by decide⟩ (by decide) (by decide) (show Int.tmod 2 3 = 2 from by decide)) ?_
      refine pe_call rfl (s_invV rfl (cell_app (OB.obj hb hO)) rfl rfl) (corner_at hb (OB_app hO _) hT hT2 (t := t) (k := 2) (by omega) (by decide) hc2) ?_
      refine pe_go (pc := 58) rfl (s_aald (cell_app h1) (k := p2) (by omega) (by omega) er2) ?_
      refine pe_go (pc := 59) rfl (s_astore (lv' := [(8, .ref r2), (7, .ref r1), (6, .int (iI 1)), (5, .ref (m + (l.length + 1))), (4, .int (iI (t : Int))), (3, .ref m), (0, .ref b), (1, .ref a), (2, .int (iI (N : Int)))]) rfl) ?_
      refine pe_go (pc := 61) rfl (s_aload rfl) ?_
      refine pe_go (pc := 63) rfl (s_iload rfl) ?_
      refine pe_go (pc := 65) rfl (s_aload rfl) ?_
      refine pe_go (pc := 67) rfl (s_iconst (z := 0) rfl) ?_
      refine pe_go (pc := 68) rfl (s_iald (n := 3) (f := row3 (X.cx p1) (X.cy p1) (X.cz p1)) (v := X.cx p1) (cell_app hr1) (k := 0) (by omega) (by omega) (by decide) rfl) ?_
      refine pe_go (pc := 69) rfl (s_aload rfl) ?_
      refine pe_go (pc := 71) rfl (s_iconst (z := 0) rfl) ?_
      refine pe_go (pc := 72) rfl (s_iald (n := 3) (f := row3 (X.cx p2) (X.cy p2) (X.cz p2)) (v := X.cx p2) (cell_app hr2) (k := 0) (by omega) (by omega) (by decide) rfl) ?_
      refine pe_go (pc := 73) rfl s_isub ?_
      refine pe_go (pc := 74) rfl (s_i2l ⟨by omega, by omega⟩) ?_
      refine pe_go (pc := 75) rfl (s_aload rfl) ?_
      refine pe_go (pc := 77) rfl (s_iconst (z := 0) rfl) ?_
      refine pe_go (pc := 78) rfl (s_iald (n := 3) (f := row3 (X.cx p1) (X.cy p1) (X.cz p1)) (v := X.cx p1) (cell_app hr1) (k := 0) (by omega) (by omega) (by decide) rfl) ?_
      refine pe_go (pc := 79) rfl (s_aload rfl) ?_
      refine pe_go (pc := 81) rfl (s_iconst (z := 0) rfl) ?_
      refine pe_go (pc := 82) rfl (s_iald (n := 3) (f := row3 (X.cx p2) (X.cy p2) (X.cz p2)) (v := X.cx p2) (cell_app hr2) (k := 0) (by omega) (by omega) (by decide) rfl) ?_
      refine pe_go (pc := 83) rfl s_isub ?_
      refine pe_go (pc := 84) rfl (s_i2l ⟨by omega, by omega⟩) ?_
      refine pe_go (pc := 85) rfl s_lmul ?_
      refine pe_go (pc := 86) rfl (s_aload rfl) ?_
      refine pe_go (pc := 88) rfl (s_iconst (z := 1) rfl) ?_
      refine pe_go (pc := 89) rfl (s_iald (n := 3) (f := row3 (X.cx p1) (X.cy p1) (X.cz p1)) (v := X.cy p1) (cell_app hr1) (k := 1) (by omega) (by omega) (by decide) rfl) ?_
      refine pe_go (pc := 90) rfl (s_aload rfl) ?_
      refine pe_go (pc := 92) rfl (s_iconst (z := 1) rfl) ?_
      refine pe_go (pc := 93) rfl (s_iald (n := 3) (f := row3 (X.cx p2) (X.cy p2) (X.cz p2)) (v := X.cy p2) (cell_app hr2) (k := 1) (by omega) (by omega) (by decide) rfl) ?_
      refine pe_go (pc := 94) rfl s_isub ?_
      refine pe_go (pc := 95) rfl (s_i2l ⟨by omega, by omega⟩) ?_
      refine pe_go (pc := 96) rfl (s_aload rfl) ?_
      refine pe_go (pc := 98) rfl (s_iconst (z := 1) rfl) ?_
      refine pe_go (pc := 99) rfl (s_iald (n := 3) (f := row3 (X.cx p1) (X.cy p1) (X.cz p1)) (v := X.cy p1) (cell_app hr1) (k := 1) (by omega) (by omega) (by decide) rfl) ?_
      refine pe_go (pc := 100) rfl (s_aload rfl) ?_
      refine pe_go (pc := 102) rfl (s_iconst (z := 1) rfl) ?_
      refine pe_go (pc := 103) rfl (s_iald (n := 3) (f := row3 (X.cx p2) (X.cy p2) (X.cz p2)) (v := X.cy p2) (cell_app hr2) (k := 1) (by omega) (by omega) (by decide) rfl) ?_
      refine pe_go (pc := 104) rfl s_isub ?_
      refine pe_go (pc := 105) rfl (s_i2l ⟨by omega, by omega⟩) ?_
      refine pe_go (pc := 106) rfl s_lmul ?_
      refine pe_go (pc := 107) rfl s_ladd ?_
      rw [g1]
      refine pe_go (pc := 108) rfl (s_last (n := 3) (f := vp_updL (fun _ => 0) 0 (lI d0)) (w' := w ++ (.inl (0, 2, .inl (fun j => iI (f j))) :: (l ++ [.inl (1, 3, .inr (.inl (vp_updL (vp_updL (fun _ => 0) 0 (lI d0)) 1 (lI d1))))]))) (gA hm get_new) (k := 1) (by omega) (by omega) (by decide) (gS hm set_new)) ?_
      refine pe_go (pc := 109) rfl (s_iinc (x := 1) (y := 2) rfl (by omega) (lv' := [(6, .int (iI 2)), (8, .ref r2), (7, .ref r1), (5, .ref (m + (l.length + 1))), (4, .int (iI (t : Int))), (3, .ref m), (0, .ref b), (1, .ref a), (2, .int (iI (N : Int)))]) rfl) ?_
      refine pe_go (pc := 112) rfl s_goto ?_
      refine pe_go (pc := 21) rfl (s_iload rfl) ?_
      refine pe_go (pc := 23) rfl (s_iconst (z := 3) rfl) ?_
      refine pe_go rfl (s_icmp_ge_f ⟨by decide, by decide⟩ ⟨by decide, by decide⟩ (by decide)) ?_
      refine pe_go (pc := 27) rfl (s_aload_n rfl) ?_
      refine pe_go (pc := 28) rfl (s_getf (v := .ref pa) (cell_app h0) rfl) ?_
      refine pe_go (pc := 31) rfl (s_aload_n rfl) ?_
      refine pe_go (pc := 32) rfl (s_iload rfl) ?_
      refine pe_go (pc := 34) rfl (s_iload rfl) ?_
      refine pe_call rfl (s_invV rfl (cell_app (OB.obj hb hO)) rfl rfl) (corner_at hb (OB_app hO _) hT hT2 (t := t) (k := 2) (by omega) (by decide) hc2) ?_
      refine pe_go (pc := 39) rfl (s_aald (cell_app h1) (k := p2) (by omega) (by omega) er2) ?_
      refine pe_go (pc := 40) rfl (s_astore (lv' := [(7, .ref r2), (6, .int (iI 2)), (8, .ref r2), (5, .ref (m + (l.length + 1))), (4, .int (iI (t : Int))), (3, .ref m), (0, .ref b), (1, .ref a), (2, .int (iI (N : Int)))]) rfl) ?_
      refine pe_go (pc := 42) rfl (s_aload_n rfl) ?_
      refine pe_go (pc := 43) rfl (s_getf (v := .ref pa) (cell_app h0) rfl) ?_
      refine pe_go (pc := 46) rfl (s_aload_n rfl) ?_
      refine pe_go (pc := 47) rfl (s_iload rfl) ?_
      refine pe_go (pc := 49) rfl (s_iload rfl) ?_
      refine pe_go (pc := 51) rfl (s_iconst (z := 1) rfl) ?_
      refine pe_go (q := (53, [(7, .ref r2), (6, .int (iI 2)), (8, .ref r2), (5, .ref (m + (l.length + 1))), (4, .int (iI (t : Int))), (3, .ref m), (0, .ref b), (1, .ref a), (2, .int (iI (N : Int)))], [.int (iI 3), .int (iI (t : Int)), .ref b, .ref pa], w ++ (.inl (0, 2, .inl (fun j => iI (f j))) :: (l ++ [.inl (1, 3, .inr (.inl (vp_updL (vp_updL (fun _ => 0) 0 (lI d0)) 1 (lI d1))))])))) rfl s_iadd ?_
      refine pe_go (pc := 53) rfl (s_iconst (z := 3) rfl) ?_
      refine pe_go (pc := 54) rfl (s_irem ⟨by decide, by decide⟩ ⟨by decide, by decide⟩ (by decide) (by decide) (show Int.tmod 3 3 = 0 from by decide)) ?_
      refine pe_call rfl (s_invV rfl (cell_app (OB.obj hb hO)) rfl rfl) (corner_at hb (OB_app hO _) hT hT2 (t := t) (k := 0) (by omega) (by decide) hc0) ?_
      refine pe_go (pc := 58) rfl (s_aald (cell_app h1) (k := p0) (by omega) (by omega) er0) ?_
      refine pe_go (pc := 59) rfl (s_astore (lv' := [(8, .ref r0), (7, .ref r2), (6, .int (iI 2)), (5, .ref (m + (l.length + 1))), (4, .int (iI (t : Int))), (3, .ref m), (0, .ref b), (1, .ref a), (2, .int (iI (N : Int)))]) rfl) ?_
      refine pe_go (pc := 61) rfl (s_aload rfl) ?_
      refine pe_go (pc := 63) rfl (s_iload rfl) ?_
      refine pe_go (pc := 65) rfl (s_aload rfl) ?_
      refine pe_go (pc := 67) rfl (s_iconst (z := 0) rfl) ?_
      refine pe_go (pc := 68) rfl (s_iald (n := 3) (f := row3 (X.cx p2) (X.cy p2) (X.cz p2)) (v := X.cx p2) (cell_app hr2) (k := 0) (by omega) (by omega) (by decide) rfl) ?_
      refine pe_go (pc := 69) rfl (s_aload rfl) ?_
      refine pe_go (pc := 71) rfl (s_iconst (z := 0) rfl) ?_
      refine pe_go (pc := 72) rfl (s_iald (n := 3) (f := row3 (X.cx p0) (X.cy p0) (X.cz p0)) (v := X.cx p0) (cell_app hr0) (k := 0) (by omega) (by omega) (by decide) rfl) ?_
      refine pe_go (pc := 73) rfl s_isub ?_
      refine pe_go (pc := 74) rfl (s_i2l ⟨by omega, by omega⟩) ?_
      refine pe_go (pc := 75) rfl (s_aload rfl) ?_
      refine pe_go (pc := 77) rfl (s_iconst (z := 0) rfl) ?_
      refine pe_go (pc := 78) rfl (s_iald (n := 3) (f := row3 (X.cx p2) (X.cy p2) (X.cz p2)) (v := X.cx p2) (cell_app hr2) (k := 0) (by omega) (by omega) (by decide) rfl) ?_
      refine pe_go (pc := 79) rfl (s_aload rfl) ?_
      refine pe_go (pc := 81) rfl (s_iconst (z := 0) rfl) ?_
      refine pe_go (pc := 82) rfl (s_iald (n := 3) (f := row3 (X.cx p0) (X.cy p0) (X.cz p0)) (v := X.cx p0) (cell_app hr0) (k := 0) (by omega) (by omega) (by decide) rfl) ?_
      refine pe_go (pc := 83) rfl s_isub ?_
      refine pe_go (pc := 84) rfl (s_i2l ⟨by omega, by omega⟩) ?_
      refine pe_go (pc := 85) rfl s_lmul ?_
      refine pe_go (pc := 86) rfl (s_aload rfl) ?_
      refine pe_go (pc := 88) rfl (s_iconst (z := 1) rfl) ?_
      refine pe_go (pc := 89) rfl (s_iald (n := 3) (f := row3 (X.cx p2) (X.cy p2) (X.cz p2)) (v := X.cy p2) (cell_app hr2) (k := 1) (by omega) (by omega) (by decide) rfl) ?_
      refine pe_go (pc := 90) rfl (s_aload rfl) ?_
      refine pe_go (pc := 92) rfl (s_iconst (z := 1) rfl) ?_
      refine pe_go (pc := 93) rfl (s_iald (n := 3) (f := row3 (X.cx p0) (X.cy p0) (X.cz p0)) (v := X.cy p0) (cell_app hr0) (k := 1) (by omega) (by omega) (by decide) rfl) ?_
      refine pe_go (pc := 94) rfl s_isub ?_
      refine pe_go (pc := 95) rfl (s_i2l ⟨by omega, by omega⟩) ?_
      refine pe_go (pc := 96) rfl (s_aload rfl) ?_
      refine pe_go (pc := 98) rfl (s_iconst (z := 1) rfl) ?_
      refine pe_go (pc := 99) rfl (s_iald (n := 3) (f := row3 (X.cx p2) (X.cy p2) (X.cz p2)) (v := X.cy p2) (cell_app hr2) (k := 1) (by omega) (by omega) (by decide) rfl) ?_
      refine pe_go (pc := 100) rfl (s_aload rfl) ?_
      refine pe_go (pc := 102) rfl (s_iconst (z := 1) rfl) ?_
      refine pe_go (pc := 103) rfl (s_iald (n := 3) (f := row3 (X.cx p0) (X.cy p0) (X.cz p0)) (v := X.cy p0) (cell_app hr0) (k := 1) (by omega) (by omega) (by decide) rfl) ?_
      refine pe_go (pc := 104) rfl s_isub ?_
      refine pe_go (pc := 105) rfl (s_i2l ⟨by omega, by omega⟩) ?_
      refine pe_go (pc := 106) rfl s_lmul ?_
      refine pe_go (pc := 107) rfl s_ladd ?_
      rw [g2]
      refine pe_go (pc := 108) rfl (s_last (n := 3) (f := vp_updL (vp_updL (fun _ => 0) 0 (lI d0)) 1 (lI d1)) (w' := w ++ (.inl (0, 2, .inl (fun j => iI (f j))) :: (l ++ [.inl (1, 3, .inr (.inl (vp_updL (vp_updL (vp_updL (fun _ => 0) 0 (lI d0)) 1 (lI d1)) 2 (lI d2))))]))) (gA hm get_new) (k := 2) (by omega) (by omega) (by decide) (gS hm set_new)) ?_
      refine pe_go (pc := 109) rfl (s_iinc (x := 2) (y := 3) rfl (by omega) (lv' := [(6, .int (iI 3)), (8, .ref r0), (7, .ref r2), (5, .ref (m + (l.length + 1))), (4, .int (iI (t : Int))), (3, .ref m), (0, .ref b), (1, .ref a), (2, .int (iI (N : Int)))]) rfl) ?_
      refine pe_go (pc := 112) rfl s_goto ?_
      refine pe_go (pc := 21) rfl (s_iload rfl) ?_
      refine pe_go (pc := 23) rfl (s_iconst (z := 3) rfl) ?_
      refine pe_go rfl (s_icmp_ge_t ⟨by decide, by decide⟩ ⟨by decide, by decide⟩ (by decide)) ?_
      refine pe_go (pc := 115) rfl (s_aload rfl) ?_
      refine pe_go (pc := 117) rfl (s_iconst (z := 0) rfl) ?_
      refine pe_go (pc := 118) rfl (s_lald (n := 3) (f := vp_updL (vp_updL (vp_updL (fun _ => 0) 0 (lI d0)) 1 (lI d1)) 2 (lI d2)) (v := lI d0) (gA hm get_new) (k := 0) (by omega) (by omega) (by decide) rfl) ?_
      refine pe_go (pc := 119) rfl (s_aload rfl) ?_
      refine pe_go (pc := 121) rfl (s_iconst (z := 1) rfl) ?_
      refine pe_go (pc := 122) rfl (s_lald (n := 3) (f := vp_updL (vp_updL (vp_updL (fun _ => 0) 0 (lI d0)) 1 (lI d1)) 2 (lI d2)) (v := lI d1) (gA hm get_new) (k := 1) (by omega) (by omega) (by decide) rfl) ?_
      refine pe_go (pc := 123) rfl (s_aload rfl) ?_
      refine pe_go (pc := 125) rfl (s_iconst (z := 2) rfl) ?_
      refine pe_go (pc := 126) rfl (s_lald (n := 3) (f := vp_updL (vp_updL (vp_updL (fun _ => 0) 0 (lI d0)) 1 (lI d1)) 2 (lI d2)) (v := lI d2) (gA hm get_new) (k := 2) (by omega) (by omega) (by decide) rfl) ?_
      refine pe_call rfl (s_invS rfl rfl rfl) (c_maxL (x := d1) (y := d2) ⟨by omega, by omega⟩ ⟨by omega, by omega⟩) ?_
      refine pe_call rfl (s_invS rfl rfl rfl) (c_maxL (x := d0) (y := zmaxL d1 d2) ⟨by omega, by omega⟩ ⟨by omega, by omega⟩) ?_
      rw [gM]
      refine pe_go (pc := 133) rfl (s_lstore (lv' := [(6, .long (lI M9)), (8, .ref r0), (5, .ref (m + (l.length + 1))), (4, .int (iI (t : Int))), (3, .ref m), (0, .ref b), (1, .ref a), (2, .int (iI (N : Int)))]) rfl) ?_
      refine pe_go (pc := 135) rfl (s_aload rfl) ?_
      refine pe_go (pc := 137) rfl (s_iconst (z := 0) rfl) ?_
      refine pe_go (pc := 138) rfl (s_lald (n := 3) (f := vp_updL (vp_updL (vp_updL (fun _ => 0) 0 (lI d0)) 1 (lI d1)) 2 (lI d2)) (v := lI d0) (gA hm get_new) (k := 0) (by omega) (by omega) (by decide) rfl) ?_
      refine pe_go (pc := 139) rfl (s_aload rfl) ?_
      refine pe_go (pc := 141) rfl (s_iconst (z := 1) rfl) ?_
      refine pe_go (pc := 142) rfl (s_lald (n := 3) (f := vp_updL (vp_updL (vp_updL (fun _ => 0) 0 (lI d0)) 1 (lI d1)) 2 (lI d2)) (v := lI d1) (gA hm get_new) (k := 1) (by omega) (by omega) (by decide) rfl) ?_
      refine pe_go (pc := 143) rfl s_ladd ?_
      refine pe_go (pc := 144) rfl (s_aload rfl) ?_
      refine pe_go (pc := 146) rfl (s_iconst (z := 2) rfl) ?_
      refine pe_go (pc := 147) rfl (s_lald (n := 3) (f := vp_updL (vp_updL (vp_updL (fun _ => 0) 0 (lI d0)) 1 (lI d1)) 2 (lI d2)) (v := lI d2) (gA hm get_new) (k := 2) (by omega) (by omega) (by decide) rfl) ?_
      refine pe_go (pc := 148) rfl s_ladd ?_
      refine pe_go (pc := 149) rfl (s_lload rfl) ?_
      refine pe_go (pc := 151) rfl s_lsub ?_
      refine pe_go (pc := 152) rfl (s_lstore (lv' := [(8, .long (lI (((d0 + d1) + d2) - M9))), (6, .long (lI M9)), (5, .ref (m + (l.length + 1))), (4, .int (iI (t : Int))), (3, .ref m), (0, .ref b), (1, .ref a), (2, .int (iI (N : Int)))]) rfl) ?_
      refine pe_go (pc := 154) rfl (s_aload_n rfl) ?_
      refine pe_go (pc := 155) rfl (s_iconst (z := 0) rfl) ?_
      refine pe_go (pc := 156) rfl s_dup2 ?_
      refine pe_go (pc := 157) rfl (s_iald (n := 2) (f := f) (v := f 0) (gA0 hm rfl) (k := 0) (by omega) (by omega) (by decide) rfl) ?_
      refine pe_go (pc := 158) rfl (s_lload rfl) ?_
      refine pe_go (pc := 160) rfl (s_lload rfl) ?_
      refine pe_go rfl (s_lcmp_gt ⟨by omega, by omega⟩ ⟨by omega, by omega⟩ c) ?_
      refine pe_go rfl (s_if_le_f ⟨by decide, by decide⟩ (by decide)) ?_
      refine pe_go (pc := 166) rfl (s_iconst (z := 1) rfl) ?_
      refine pe_go (pc := 167) rfl s_goto ?_
      refine pe_go (pc := 171) rfl s_iadd ?_
      refine pe_go (pc := 172) rfl (s_iast (n := 2) (f := f) (w' := w ++ (.inl (0, 2, .inl (fun j => iI ((uZ f 0 ((f 0) + 1)) j))) :: (l ++ [.inl (1, 3, .inr (.inl (vp_updL (vp_updL (vp_updL (fun _ => 0) 0 (lI d0)) 1 (lI d1)) 2 (lI d2))))]))) (gA0 hm rfl) (k := 0) (by omega) (by omega) (by decide) (gS0 hm rfl)) ?_
      refine pe_go (pc := 173) rfl (s_aload_n rfl) ?_
      refine pe_go (pc := 174) rfl (s_iconst (z := 1) rfl) ?_
      refine pe_go (pc := 175) rfl s_dup2 ?_
      refine pe_go (pc := 176) rfl (s_iald (n := 2) (f := uZ f 0 ((f 0) + 1)) (v := f 1) (gA0 hm rfl) (k := 1) (by omega) (by omega) (by decide) rfl) ?_
      refine pe_go (pc := 177) rfl (s_lload rfl) ?_
      refine pe_go (pc := 179) rfl (s_lload rfl) ?_
      refine pe_go rfl (s_lcmp_gt ⟨by omega, by omega⟩ ⟨by omega, by omega⟩ c) ?_
      refine pe_go rfl (s_if_ne_t ⟨by decide, by decide⟩ (by decide)) ?_
      refine pe_go (pc := 189) rfl (s_iconst (z := 0) rfl) ?_
      refine pe_go (pc := 190) rfl s_iadd0 ?_
      refine pe_go (pc := 191) rfl (s_iast (n := 2) (f := uZ f 0 ((f 0) + 1)) (w' := w ++ (.inl (0, 2, .inl (fun j => iI ((uZ (uZ f 0 ((f 0) + 1)) 1 (f 1)) j))) :: (l ++ [.inl (1, 3, .inr (.inl (vp_updL (vp_updL (vp_updL (fun _ => 0) 0 (lI d0)) 1 (lI d1)) 2 (lI d2))))]))) (gA0 hm rfl) (k := 1) (by omega) (by omega) (by decide) (gS0 hm rfl)) ?_
      refine pe_go (pc := 192) rfl (s_iinc (x := (t : Int)) (y := ((t + 1 : Nat) : Int)) rfl (by omega) (lv' := [(4, .int (iI ((t + 1 : Nat) : Int))), (8, .long (lI (((d0 + d1) + d2) - M9))), (6, .long (lI M9)), (5, .ref (m + (l.length + 1))), (3, .ref m), (0, .ref b), (1, .ref a), (2, .int (iI (N : Int)))]) rfl) ?_
      refine pe_go (pc := 195) rfl s_goto ?_
      refine pe_few (lv := [(4, .int (iI ((t + 1 : Nat) : Int))), (3, .ref m), (0, .ref b), (1, .ref a), (2, .int (iI (N : Int)))]) rfl rfl (by intro q hq; simp only [List.mem_cons, List.not_mem_nil, or_false] at hq; rcases hq with rfl | rfl | rfl | rfl | rfl <;> rfl) ?_
      refine ih (t + 1) (uZ (uZ f 0 ((f 0) + 1)) 1 (f 1)) (l ++ [.inl (1, 3, .inr (.inl (vp_updL (vp_updL (vp_updL (fun _ => 0) 0 (lI d0)) 1 (lI d1)) 2 (lI d2))))]) (by omega) ?_ ?_ (by rw [List.length_append, hl]; rfl) (hz' _ rfl)
      · show _ = X.obt S t + if 0 < X.ex S t then 1 else 0
        rw [show (uZ (uZ f 0 (f 0 + 1)) 1 (f 1)) 0 = f 0 + 1 from rfl, hf0, hex, if_pos (by omega)]
        skip
      · show _ = X.rgt S t + if X.ex S t = 0 then 1 else 0
        rw [show (uZ (uZ f 0 (f 0 + 1)) 1 (f 1)) 1 = f 1 from rfl, hf1, hex, if_neg (by omega)]
        omega
theorem w_angles {w : pW} {m : Nat} (hm : w.length = m) {pre post : pW} {b : Nat} (hb : pre.length = b) {S : St} {L M : List St} {K : St} (hO : OB pre post b S L M K w) {O Q : Nat → Prop} {a : Nat} {X : Sh} (hS : shAt w O Q a X) (hX9 : ∀ (k : Nat) (x y z : Int), k < 40 → X.1 k = some (x, y, z) → inSq x y ∧ -9999 ≤ z ∧ z ≤ 9999) {T : Nat} (hT : S.tn = (T : Int)) (hT2 : T ≤ 74) (hC : ∀ t k : Nat, t < T → k < 3 → S.cn t k < 40 ∧ (X.1 (S.cn t k)).isSome = true) {N : Nat} (hN : N ≤ T) : qC 152 [.ref b, .ref a, .int (iI (N : Int))] w (fun r' w' => r' = some (.ref m) ∧ ∃ (f : Nat → Int) (l : pW), w' = w ++ (.inl (0, 2, .inl (fun j => iI (f j))) :: l) ∧ f 0 = X.obt S N ∧ f 1 = X.rgt S N ∧ l.length = N ∧ pwsz l = 3 * N) := by
  obtain ⟨pa, fa, ha, pf, gf, hf, ff, hS⟩ := hS
  refine pc_run (lv := [(0, .ref b), (1, .ref a), (2, .int (iI (N : Int)))]) rfl ?_
  refine pe_go (pc := 0) rfl (s_iconst (z := 2) rfl) ?_
  refine pe_go (pc := 1) rfl (s_newI (n := 2) rfl (by decide)) ?_
  rw [hm]
  refine pe_go (pc := 3) rfl (s_astore_n (lv' := [(3, .ref m), (0, .ref b), (1, .ref a), (2, .int (iI (N : Int)))]) rfl) ?_
  refine pe_go (pc := 4) rfl (s_iconst (z := 0) rfl) ?_
  refine pe_go (pc := 5) rfl (s_istore (lv' := [(4, .int (iI 0)), (3, .ref m), (0, .ref b), (1, .ref a), (2, .int (iI (N : Int)))]) rfl) ?_
  exact l_angles hm hb hO hS hX9 hT hT2 hC hN N 0 (fun _ => 0) [] (by omega) rfl rfl rfl rfl
