/-! THE LAW: the colours, one point after the other. Rows laid by program (wip/p63/wk.py, hw.py, mk98z.py). -/
theorem shP_agr {P : Nat → Prop} {w w' : pW} {O Q : Nat → Prop} {a : Nat} {X : Sh} {pa fa ha : Nat} {pf gf hf : Nat → Option Nat} {ff : Nat → Nat} (h : shP w O Q a X pa fa ha pf gf hf ff) (k : agr P w w') (hP : ∀ i : Nat, P i → ¬ O i ∧ ¬ Q i) : shP w' O Q a X pa fa ha pf gf hf ff := by
  obtain ⟨hb, h0, h1, h2, h3, h4, h5, h6, h7, h8, h9⟩ := h
  have keep : ∀ (i : Nat) (c : pCell), O i ∨ Q i → w[i]? = some c → w'[i]? = some c := fun i c h1 h2 => (k.2 i (get_lt h2) (fun z => h1.elim (hP i z).1 (hP i z).2)).trans h2
  refine ⟨hb, keep _ _ (Or.inl hb.1) h0, keep _ _ (Or.inl hb.2.1) h1, h2, fun q x y z hq hz => ?_, keep _ _ (Or.inl hb.2.2.1) h4, fun q hq => ?_, h6, keep _ _ (Or.inr hb.2.2.2.1) h7, h8, fun q hq => ?_⟩
  · obtain ⟨r, r1, r2, r4⟩ := h3 q x y z hq hz
    exact ⟨r, r1, r2, keep _ _ (Or.inr r2) r4⟩
  · obtain ⟨r1, r2, r4⟩ := h5 q hq
    exact ⟨r1, r2, keep _ _ (Or.inl r2) r4⟩
  · obtain ⟨r, x, y, r1, r2, r4, r5⟩ := h9 q hq
    exact ⟨r, x, y, r1, r2, keep _ _ (Or.inr r2) r4, r5⟩
theorem cell_agr {P : Nat → Prop} {w w' : pW} (k : agr P w w') {i : Nat} {c : pCell} (h : w[i]? = some c) (hn : ¬ P i) : w'[i]? = some c := (k.2 i (get_lt h) hn).trans h
theorem tab_agr {P : Nat → Prop} {w w' : pW} (k : agr P w w') {q : Nat} {tf : Nat → Option Nat} {tr : Nat → Nat} {G : Nat → Nat → Int} (h : tabAt w q tf tr G) (hq : ¬ P q) (hr : ∀ x : Nat, x < 40 → ¬ P (tr x)) : tabAt w' q tf tr G := ⟨cell_agr k h.1 hq, fun x hx => ⟨(h.2 x hx).1, cell_agr k (h.2 x hx).2 (hr x hx)⟩⟩
/-- a cell behind the object is written -/
theorem OB_set {pre post : pW} {b : Nat} (hb : pre.length = b) {S : St} {L M : List St} {K : St} {w : pW} (h : OB pre post b S L M K w) {e : Nat} (he : b + 57 ≤ e) (c : pCell) : ∃ post' : pW, OB pre post' b S L M K (w.set e c) := by
  obtain ⟨hS, hLo, hLl, hMo, hMl, pn, pb, rn, rb, cl, kp, kr, rfl⟩ := h
  refine ⟨post.set (e - (b + 57)) c, hS, hLo, hLl, hMo, hMl, pn, pb, rn, rb, cl, kp, kr, ?_⟩
  rw [show ∀ p : pW, (pre ++ oC (b + 1)) ++ (mB (b + 1) S ++ (oP (b + 1) pn pb (L.length : Int) rn rb (M.length : Int) cl ++ p)) = (pre ++ (oC (b + 1) ++ (mB (b + 1) S ++ oP (b + 1) pn pb (L.length : Int) rn rb (M.length : Int) cl))) ++ p from fun p => by simp only [List.append_assoc]]
  rw [show ∀ p : pW, (pre ++ oC (b + 1)) ++ (mB (b + 1) S ++ (oP (b + 1) pn pb (L.length : Int) rn rb (M.length : Int) cl ++ p)) = (pre ++ (oC (b + 1) ++ (mB (b + 1) S ++ oP (b + 1) pn pb (L.length : Int) rn rb (M.length : Int) cl))) ++ p from fun p => by simp only [List.append_assoc]]
  have hl : (pre ++ (oC (b + 1) ++ (mB (b + 1) S ++ oP (b + 1) pn pb (L.length : Int) rn rb (M.length : Int) cl))).length = b + 57 := by
    rw [List.length_append, hb]
    rfl
  rw [List.set_append_right _ _ (by omega), hl]
theorem colN_y {S : St} {c0 : Nat → Int} {p : Nat} {mx : Int} (h : colN S c0 p mx) (sp : S.has p) (h0 : 0 ≤ c0 p ∧ c0 p < 40) : colN S c0 (p + 1) (zmax mx (c0 p + 1)) := by
  obtain ⟨h1, h2, h3, h4⟩ := h
  have hz : zmax mx (c0 p + 1) = mx ∧ c0 p + 1 ≤ mx ∨ zmax mx (c0 p + 1) = c0 p + 1 ∧ mx ≤ c0 p + 1 := by
    unfold zmax
    split <;> omega
  rcases hz with ⟨e, z⟩ | ⟨e, z⟩
  · rw [e]
    refine ⟨h1, h2, fun q hq sq => ?_, ?_⟩
    · by_cases eq : q = p
      · subst eq; exact z
      · exact h3 q (by omega) sq
    · rcases h4 with h4 | ⟨q, q1, q2, q3⟩
      · exact Or.inl h4
      · exact Or.inr ⟨q, by omega, q2, q3⟩
  · rw [e]
    refine ⟨by omega, by omega, fun q hq sq => ?_, Or.inr ⟨p, by omega, sp, rfl⟩⟩
    by_cases eq : q = p
    · subst eq; omega
    · have := h3 q (by omega) sq; omega
theorem colN_n {S : St} {c0 : Nat → Int} {p : Nat} {mx : Int} (h : colN S c0 p mx) (sp : ¬ S.has p) : colN S c0 (p + 1) mx := by
  obtain ⟨h1, h2, h3, h4⟩ := h
  refine ⟨h1, h2, fun q hq sq => ?_, ?_⟩
  · by_cases eq : q = p
    · subst eq; exact absurd sq sp
    · exact h3 q (by omega) sq
  · rcases h4 with h4 | ⟨q, q1, q2, q3⟩
    · exact Or.inl h4
    · exact Or.inr ⟨q, by omega, q2, q3⟩
theorem colN_uniq {S : St} {c1 c2 : Nat → Int} {k1 k2 : Int} (h : ∀ p : Nat, p < 40 → S.has p → c1 p = c2 p) (h1 : colN S c1 40 k1) (h2 : colN S c2 40 k2) : k1 = k2 := by
  obtain ⟨a1, a2, a3, a4⟩ := h1
  obtain ⟨b1, b2, b3, b4⟩ := h2
  have x1 : k1 ≤ k2 := by
    rcases a4 with z | ⟨p, p1, p2, p3⟩
    · omega
    · have := b3 p p1 p2
      rw [← h p p1 p2] at this
      omega
  have x2 : k2 ≤ k1 := by
    rcases b4 with z | ⟨p, p1, p2, p3⟩
    · omega
    · have := a3 p p1 p2
      rw [h p p1 p2] at this
      omega
  omega
theorem l_c1043 {w : pW} {a b e g q T p : Nat} {mx x3 x4 x5 x6 x7 x8 : Int} {Φ : Option Value → pW → Prop} (hp : p < 40) (KK : qE 151 (1056, [(15, .int (iI ((0 : Nat) : Int))), (14, .int (iI ((0 : Nat) : Int))), (13, .int (iI (p : Int))), (12, .int (iI mx)), (11, .ref e), (10, .ref g), (9, .ref q), (8, .int (iI x8)), (7, .int (iI x7)), (6, .int (iI x6)), (5, .int (iI x5)), (4, .int (iI x4)), (3, .int (iI x3)), (2, .int (iI (T : Int))), (0, .ref b), (1, .ref a)], [], w) Φ) : qE 151 (1043, [(13, .int (iI (p : Int))), (12, .int (iI mx)), (11, .ref e), (10, .ref g), (9, .ref q), (8, .int (iI x8)), (7, .int (iI x7)), (6, .int (iI x6)), (5, .int (iI x5)), (4, .int (iI x4)), (3, .int (iI x3)), (2, .int (iI (T : Int))), (0, .ref b), (1, .ref a)], [], w) Φ := by
  refine pe_go (pc := 1043) rfl (s_iload rfl) ?_
  refine pe_go (pc := 1045) rfl (s_bipush (z := 40) rfl) ?_
  refine pe_go rfl (s_icmp_ge_f ⟨by omega, by omega⟩ ⟨by decide, by decide⟩ (by omega)) ?_
  refine pe_go (pc := 1050) rfl (s_iconst (z := 0) rfl) ?_
  refine pe_go (pc := 1051) rfl (s_istore (lv' := [(14, .int (iI 0)), (13, .int (iI (p : Int))), (12, .int (iI mx)), (11, .ref e), (10, .ref g), (9, .ref q), (8, .int (iI x8)), (7, .int (iI x7)), (6, .int (iI x6)), (5, .int (iI x5)), (4, .int (iI x4)), (3, .int (iI x3)), (2, .int (iI (T : Int))), (0, .ref b), (1, .ref a)]) rfl) ?_
  refine pe_go (pc := 1053) rfl (s_iconst (z := 0) rfl) ?_
  refine pe_go (pc := 1054) rfl (s_istore (lv' := [(15, .int (iI 0)), (14, .int (iI 0)), (13, .int (iI (p : Int))), (12, .int (iI mx)), (11, .ref e), (10, .ref g), (9, .ref q), (8, .int (iI x8)), (7, .int (iI x7)), (6, .int (iI x6)), (5, .int (iI x5)), (4, .int (iI x4)), (3, .int (iI x3)), (2, .int (iI (T : Int))), (0, .ref b), (1, .ref a)]) rfl) ?_
  refine pe_few (lv := [(15, .int (iI ((0 : Nat) : Int))), (14, .int (iI ((0 : Nat) : Int))), (13, .int (iI (p : Int))), (12, .int (iI mx)), (11, .ref e), (10, .ref g), (9, .ref q), (8, .int (iI x8)), (7, .int (iI x7)), (6, .int (iI x6)), (5, .int (iI x5)), (4, .int (iI x4)), (3, .int (iI x3)), (2, .int (iI (T : Int))), (0, .ref b), (1, .ref a)]) rfl rfl (by intro q hq; simp only [List.mem_cons, List.not_mem_nil, or_false] at hq; rcases hq with rfl | rfl | rfl | rfl | rfl | rfl | rfl | rfl | rfl | rfl | rfl | rfl | rfl | rfl | rfl | rfl <;> rfl) ?_
  exact KK
theorem l_c1043x {w : pW} {a b e g q T : Nat} {mx x3 x4 x5 x6 x7 x8 : Int} {Φ : Option Value → pW → Prop} (KK : qE 151 (1182, [(12, .int (iI mx)), (11, .ref e), (10, .ref g), (9, .ref q), (8, .int (iI x8)), (7, .int (iI x7)), (6, .int (iI x6)), (5, .int (iI x5)), (4, .int (iI x4)), (3, .int (iI x3)), (2, .int (iI (T : Int))), (0, .ref b), (1, .ref a)], [], w) Φ) : qE 151 (1043, [(13, .int (iI (40 : Int))), (12, .int (iI mx)), (11, .ref e), (10, .ref g), (9, .ref q), (8, .int (iI x8)), (7, .int (iI x7)), (6, .int (iI x6)), (5, .int (iI x5)), (4, .int (iI x4)), (3, .int (iI x3)), (2, .int (iI (T : Int))), (0, .ref b), (1, .ref a)], [], w) Φ := by
  refine pe_go (pc := 1043) rfl (s_iload rfl) ?_
  refine pe_go (pc := 1045) rfl (s_bipush (z := 40) rfl) ?_
  refine pe_go rfl (s_icmp_ge_t ⟨by omega, by omega⟩ ⟨by decide, by decide⟩ (by omega)) ?_
  refine pe_few (lv := [(12, .int (iI mx)), (11, .ref e), (10, .ref g), (9, .ref q), (8, .int (iI x8)), (7, .int (iI x7)), (6, .int (iI x6)), (5, .int (iI x5)), (4, .int (iI x4)), (3, .int (iI x3)), (2, .int (iI (T : Int))), (0, .ref b), (1, .ref a)]) rfl rfl (by intro q hq; simp only [List.mem_cons, List.not_mem_nil, or_false] at hq; rcases hq with rfl | rfl | rfl | rfl | rfl | rfl | rfl | rfl | rfl | rfl | rfl | rfl | rfl <;> rfl) ?_
  exact KK
theorem l_c1105 {w : pW} {a b e g q T p : Nat} {mx x3 x4 x5 x6 x7 x8 : Int} {Φ : Option Value → pW → Prop} {cl : Nat → Int} (he : rowI w e 40 cl) (hp : p < 40) {u m c : Nat} (hc : c < 15) (hu : u < 32768) (hm : u = 2 ^ (c + 1) * m + (2 ^ c - 1)) (KK : qE 151 (1117, [(13, .int (iI (p : Int))), (12, .int (iI mx)), (11, .ref e), (10, .ref g), (9, .ref q), (8, .int (iI x8)), (7, .int (iI x7)), (6, .int (iI x6)), (5, .int (iI x5)), (4, .int (iI x4)), (3, .int (iI x3)), (2, .int (iI (T : Int))), (0, .ref b), (1, .ref a)], [], w.set e (.inl (0, 40, .inl (fun j => iI (uZ cl p (c : Int) j))))) Φ) : qE 151 (1105, [(14, .int (iI (u : Int))), (13, .int (iI (p : Int))), (12, .int (iI mx)), (11, .ref e), (10, .ref g), (9, .ref q), (8, .int (iI x8)), (7, .int (iI x7)), (6, .int (iI x6)), (5, .int (iI x5)), (4, .int (iI x4)), (3, .int (iI x3)), (2, .int (iI (T : Int))), (0, .ref b), (1, .ref a)], [], w) Φ := by
  refine pe_go (pc := 1105) rfl (s_aload rfl) ?_
  refine pe_go (pc := 1107) rfl (s_iload rfl) ?_
  refine pe_go (pc := 1109) rfl (s_iload rfl) ?_
  refine pe_go (pc := 1111) rfl (s_iconst (z := -1) rfl) ?_
  refine pe_go (pc := 1112) rfl s_ixor ?_
  rw [iI_not]
  refine pe_call rfl (s_invS rfl rfl rfl) (c_ntz w hc (by omega) hm) ?_
  refine pe_go (pc := 1116) rfl (s_iast (n := 40) (f := cl) (w' := w.set e (.inl (0, 40, .inl (fun j => iI ((uZ cl p (c : Int)) j))))) he (k := p) (by omega) (by omega) (by decide) rfl) ?_
  refine pe_few (lv := [(13, .int (iI (p : Int))), (12, .int (iI mx)), (11, .ref e), (10, .ref g), (9, .ref q), (8, .int (iI x8)), (7, .int (iI x7)), (6, .int (iI x6)), (5, .int (iI x5)), (4, .int (iI x4)), (3, .int (iI x3)), (2, .int (iI (T : Int))), (0, .ref b), (1, .ref a)]) rfl rfl (by intro q hq; simp only [List.mem_cons, List.not_mem_nil, or_false] at hq; rcases hq with rfl | rfl | rfl | rfl | rfl | rfl | rfl | rfl | rfl | rfl | rfl | rfl | rfl | rfl <;> rfl) ?_
  exact KK
theorem l_c1117y {w : pW} {p : Nat} {pre post : pW} {b : Nat} (hb : pre.length = b) {S : St} {L M : List St} {K : St} (hO : OB pre post b S L M K w) (hp : p < 40) (sp : S.has p) {a e g q T : Nat} {mx x3 x4 x5 x6 x7 x8 : Int} {Φ : Option Value → pW → Prop} (KK : ∀ (w' : pW) (c : Nat → Int), colOk S c 40 → OB pre post b S L M K w' → qE 151 (1123, [(13, .int (iI (p : Int))), (12, .int (iI mx)), (11, .ref e), (10, .ref g), (9, .ref q), (8, .int (iI x8)), (7, .int (iI x7)), (6, .int (iI x6)), (5, .int (iI x5)), (4, .int (iI x4)), (3, .int (iI x3)), (2, .int (iI (T : Int))), (0, .ref b), (1, .ref a)], [.int (iI (c p))], w') Φ) : qE 151 (1117, [(13, .int (iI (p : Int))), (12, .int (iI mx)), (11, .ref e), (10, .ref g), (9, .ref q), (8, .int (iI x8)), (7, .int (iI x7)), (6, .int (iI x6)), (5, .int (iI x5)), (4, .int (iI x4)), (3, .int (iI x3)), (2, .int (iI (T : Int))), (0, .ref b), (1, .ref a)], [], w) Φ := by
  refine pe_go (pc := 1117) rfl (s_aload_n rfl) ?_
  refine pe_go (pc := 1118) rfl (s_iload rfl) ?_
  refine pe_callE rfl (s_invV rfl (OB.obj hb hO) rfl rfl) (o_colour hb hO hp sp) ?_
  rintro _ w1 ⟨c1, rfl, hk1, hO1⟩
  refine pe_few (lv := [(13, .int (iI (p : Int))), (12, .int (iI mx)), (11, .ref e), (10, .ref g), (9, .ref q), (8, .int (iI x8)), (7, .int (iI x7)), (6, .int (iI x6)), (5, .int (iI x5)), (4, .int (iI x4)), (3, .int (iI x3)), (2, .int (iI (T : Int))), (0, .ref b), (1, .ref a)]) rfl rfl (by intro q hq; simp only [List.mem_cons, List.not_mem_nil, or_false] at hq; rcases hq with rfl | rfl | rfl | rfl | rfl | rfl | rfl | rfl | rfl | rfl | rfl | rfl | rfl | rfl <;> rfl) ?_
  exact KK _ _ hk1 hO1
theorem l_c1117n {w : pW} {p : Nat} {pre post : pW} {b : Nat} (hb : pre.length = b) {S : St} {L M : List St} {K : St} (hO : OB pre post b S L M K w) (hp : p < 40) (sp : ¬ S.has p) {a e g q T : Nat} {mx x3 x4 x5 x6 x7 x8 : Int} {Φ : Option Value → pW → Prop} (KK : qE 151 (1123, [(13, .int (iI (p : Int))), (12, .int (iI mx)), (11, .ref e), (10, .ref g), (9, .ref q), (8, .int (iI x8)), (7, .int (iI x7)), (6, .int (iI x6)), (5, .int (iI x5)), (4, .int (iI x4)), (3, .int (iI x3)), (2, .int (iI (T : Int))), (0, .ref b), (1, .ref a)], [.int (iI (-1))], w) Φ) : qE 151 (1117, [(13, .int (iI (p : Int))), (12, .int (iI mx)), (11, .ref e), (10, .ref g), (9, .ref q), (8, .int (iI x8)), (7, .int (iI x7)), (6, .int (iI x6)), (5, .int (iI x5)), (4, .int (iI x4)), (3, .int (iI x3)), (2, .int (iI (T : Int))), (0, .ref b), (1, .ref a)], [], w) Φ := by
  refine pe_go (pc := 1117) rfl (s_aload_n rfl) ?_
  refine pe_go (pc := 1118) rfl (s_iload rfl) ?_
  refine pe_call rfl (s_invV rfl (OB.obj hb hO) rfl rfl) (o_colourN hb hO (z := (p : Int)) ⟨by omega, by omega⟩ (Or.inr (Or.inr ⟨p, hp, rfl, sp⟩))) ?_
  refine pe_few (lv := [(13, .int (iI (p : Int))), (12, .int (iI mx)), (11, .ref e), (10, .ref g), (9, .ref q), (8, .int (iI x8)), (7, .int (iI x7)), (6, .int (iI x6)), (5, .int (iI x5)), (4, .int (iI x4)), (3, .int (iI x3)), (2, .int (iI (T : Int))), (0, .ref b), (1, .ref a)]) rfl rfl (by intro q hq; simp only [List.mem_cons, List.not_mem_nil, or_false] at hq; rcases hq with rfl | rfl | rfl | rfl | rfl | rfl | rfl | rfl | rfl | rfl | rfl | rfl | rfl | rfl <;> rfl) ?_
  exact KK
theorem l_c1123y {w : pW} {b e g q T p : Nat} {mx x3 x4 x5 x6 x7 x8 : Int} {Φ : Option Value → pW → Prop} {O Q : Nat → Prop} {a : Nat} {X : Sh} {pa fa ha : Nat} {pf gf hf : Nat → Option Nat} {ff : Nat → Nat} (hS : shP w O Q a X pa fa ha pf gf hf ff) {S : St} (hR : Rel S X) {cl : Nat → Int} (he : rowI w e 40 cl) (hp : p < 40) (hmx : sm mx) (sp : S.has p) {c : Nat} (hc : c < 15) (ec : cl p = (c : Int)) (KK : qE 151 (1043, [(13, .int (iI ((p + 1 : Nat) : Int))), (12, .int (iI (zmax mx ((c : Int) + 1)))), (11, .ref e), (10, .ref g), (9, .ref q), (8, .int (iI x8)), (7, .int (iI x7)), (6, .int (iI x6)), (5, .int (iI x5)), (4, .int (iI x4)), (3, .int (iI x3)), (2, .int (iI (T : Int))), (0, .ref b), (1, .ref a)], [], w) Φ) : qE 151 (1123, [(13, .int (iI (p : Int))), (12, .int (iI mx)), (11, .ref e), (10, .ref g), (9, .ref q), (8, .int (iI x8)), (7, .int (iI x7)), (6, .int (iI x6)), (5, .int (iI x5)), (4, .int (iI x4)), (3, .int (iI x3)), (2, .int (iI (T : Int))), (0, .ref b), (1, .ref a)], [.int (iI (c : Int))], w) Φ := by
  obtain ⟨hb9, h0, h1, h2, h3, h4, h5, h6, h7, h8, h9⟩ := hS
  obtain ⟨rp, erp, -, hrp⟩ := h3 p _ _ _ hp (hR.pt hp sp)
  refine pe_go (pc := 1123) rfl (s_aload_n rfl) ?_
  refine pe_go (pc := 1124) rfl (s_getf (v := .ref pa) h0 rfl) ?_
  refine pe_go (pc := 1127) rfl (s_iload rfl) ?_
  refine pe_go (pc := 1129) rfl (s_aald h1 (k := p) (by omega) (by omega) erp) ?_
  refine pe_go (pc := 1130) rfl s_ifnonnull_t ?_
  refine pe_go (pc := 1137) rfl (s_aload rfl) ?_
  refine pe_go (pc := 1139) rfl (s_iload rfl) ?_
  refine pe_go (pc := 1141) rfl (s_iald (n := 40) (f := cl) (v := (c : Int)) he (k := p) (by omega) (by omega) (by decide) ec) ?_
  refine pe_go rfl (s_icmp_eq_t ⟨by omega, by omega⟩ ⟨by omega, by omega⟩ rfl) ?_
  refine pe_go (pc := 1147) rfl (s_aload_n rfl) ?_
  refine pe_go (pc := 1148) rfl (s_getf (v := .ref pa) h0 rfl) ?_
  refine pe_go (pc := 1151) rfl (s_iload rfl) ?_
  refine pe_go (pc := 1153) rfl (s_aald h1 (k := p) (by omega) (by omega) erp) ?_
  refine pe_go (pc := 1154) rfl s_ifnonnull_t ?_
  refine pe_go (pc := 1162) rfl (s_iload rfl) ?_
  refine pe_go (pc := 1164) rfl (s_aload rfl) ?_
  refine pe_go (pc := 1166) rfl (s_iload rfl) ?_
  refine pe_go (pc := 1168) rfl (s_iald (n := 40) (f := cl) (v := (c : Int)) he (k := p) (by omega) (by omega) (by decide) ec) ?_
  refine pe_go (pc := 1169) rfl (s_iconst (z := 1) rfl) ?_
  refine pe_go (pc := 1170) rfl s_iadd ?_
  refine pe_call rfl (s_invS rfl rfl rfl) (c_max (x := mx) (y := (c : Int) + 1) hmx ⟨by omega, by omega⟩) ?_
  refine pe_go (pc := 1174) rfl (s_istore (lv' := [(12, .int (iI (zmax mx ((c : Int) + 1)))), (13, .int (iI (p : Int))), (11, .ref e), (10, .ref g), (9, .ref q), (8, .int (iI x8)), (7, .int (iI x7)), (6, .int (iI x6)), (5, .int (iI x5)), (4, .int (iI x4)), (3, .int (iI x3)), (2, .int (iI (T : Int))), (0, .ref b), (1, .ref a)]) rfl) ?_
  refine pe_go (pc := 1176) rfl (s_iinc (x := (p : Int)) (y := ((p + 1 : Nat) : Int)) rfl (by omega) (lv' := [(13, .int (iI ((p + 1 : Nat) : Int))), (12, .int (iI (zmax mx ((c : Int) + 1)))), (11, .ref e), (10, .ref g), (9, .ref q), (8, .int (iI x8)), (7, .int (iI x7)), (6, .int (iI x6)), (5, .int (iI x5)), (4, .int (iI x4)), (3, .int (iI x3)), (2, .int (iI (T : Int))), (0, .ref b), (1, .ref a)]) rfl) ?_
  refine pe_go (pc := 1179) rfl s_goto ?_
  refine pe_few (lv := [(13, .int (iI ((p + 1 : Nat) : Int))), (12, .int (iI (zmax mx ((c : Int) + 1)))), (11, .ref e), (10, .ref g), (9, .ref q), (8, .int (iI x8)), (7, .int (iI x7)), (6, .int (iI x6)), (5, .int (iI x5)), (4, .int (iI x4)), (3, .int (iI x3)), (2, .int (iI (T : Int))), (0, .ref b), (1, .ref a)]) rfl rfl (by intro q hq; simp only [List.mem_cons, List.not_mem_nil, or_false] at hq; rcases hq with rfl | rfl | rfl | rfl | rfl | rfl | rfl | rfl | rfl | rfl | rfl | rfl | rfl | rfl <;> rfl) ?_
  exact KK
theorem l_c1123n {w : pW} {b e g q T p : Nat} {mx x3 x4 x5 x6 x7 x8 : Int} {Φ : Option Value → pW → Prop} {O Q : Nat → Prop} {a : Nat} {X : Sh} {pa fa ha : Nat} {pf gf hf : Nat → Option Nat} {ff : Nat → Nat} (hS : shP w O Q a X pa fa ha pf gf hf ff) {S : St} (hR : Rel S X) {cl : Nat → Int} (he : rowI w e 40 cl) (hp : p < 40) (hmx : sm mx) (sp : ¬ S.has p) (KK : qE 151 (1043, [(13, .int (iI ((p + 1 : Nat) : Int))), (12, .int (iI mx)), (11, .ref e), (10, .ref g), (9, .ref q), (8, .int (iI x8)), (7, .int (iI x7)), (6, .int (iI x6)), (5, .int (iI x5)), (4, .int (iI x4)), (3, .int (iI x3)), (2, .int (iI (T : Int))), (0, .ref b), (1, .ref a)], [], w) Φ) : qE 151 (1123, [(13, .int (iI (p : Int))), (12, .int (iI mx)), (11, .ref e), (10, .ref g), (9, .ref q), (8, .int (iI x8)), (7, .int (iI x7)), (6, .int (iI x6)), (5, .int (iI x5)), (4, .int (iI x4)), (3, .int (iI x3)), (2, .int (iI (T : Int))), (0, .ref b), (1, .ref a)], [.int (iI (-1))], w) Φ := by
  obtain ⟨hb9, h0, h1, h2, h3, h4, h5, h6, h7, h8, h9⟩ := hS
  have ep := h2 p hp (hR.no hp sp)
  refine pe_go (pc := 1123) rfl (s_aload_n rfl) ?_
  refine pe_go (pc := 1124) rfl (s_getf (v := .ref pa) h0 rfl) ?_
  refine pe_go (pc := 1127) rfl (s_iload rfl) ?_
  refine pe_go (pc := 1129) rfl (s_aaldN h1 (k := p) (by omega) (by omega) ep) ?_
  refine pe_go (pc := 1130) rfl s_ifnonnull_f ?_
  refine pe_go (pc := 1133) rfl (s_iconst (z := -1) rfl) ?_
  refine pe_go (pc := 1134) rfl s_goto ?_
  refine pe_go rfl (s_icmp_eq_t ⟨by decide, by decide⟩ ⟨by decide, by decide⟩ (by decide)) ?_
  refine pe_go (pc := 1147) rfl (s_aload_n rfl) ?_
  refine pe_go (pc := 1148) rfl (s_getf (v := .ref pa) h0 rfl) ?_
  refine pe_go (pc := 1151) rfl (s_iload rfl) ?_
  refine pe_go (pc := 1153) rfl (s_aaldN h1 (k := p) (by omega) (by omega) ep) ?_
  refine pe_go (pc := 1154) rfl s_ifnonnull_f ?_
  refine pe_go (pc := 1157) rfl (s_iload rfl) ?_
  refine pe_go (pc := 1159) rfl s_goto ?_
  refine pe_go (pc := 1174) rfl (s_istore (lv' := [(12, .int (iI mx)), (13, .int (iI (p : Int))), (11, .ref e), (10, .ref g), (9, .ref q), (8, .int (iI x8)), (7, .int (iI x7)), (6, .int (iI x6)), (5, .int (iI x5)), (4, .int (iI x4)), (3, .int (iI x3)), (2, .int (iI (T : Int))), (0, .ref b), (1, .ref a)]) rfl) ?_
  refine pe_go (pc := 1176) rfl (s_iinc (x := (p : Int)) (y := ((p + 1 : Nat) : Int)) rfl (by omega) (lv' := [(13, .int (iI ((p + 1 : Nat) : Int))), (12, .int (iI mx)), (11, .ref e), (10, .ref g), (9, .ref q), (8, .int (iI x8)), (7, .int (iI x7)), (6, .int (iI x6)), (5, .int (iI x5)), (4, .int (iI x4)), (3, .int (iI x3)), (2, .int (iI (T : Int))), (0, .ref b), (1, .ref a)]) rfl) ?_
  refine pe_go (pc := 1179) rfl s_goto ?_
  refine pe_few (lv := [(13, .int (iI ((p + 1 : Nat) : Int))), (12, .int (iI mx)), (11, .ref e), (10, .ref g), (9, .ref q), (8, .int (iI x8)), (7, .int (iI x7)), (6, .int (iI x6)), (5, .int (iI x5)), (4, .int (iI x4)), (3, .int (iI x3)), (2, .int (iI (T : Int))), (0, .ref b), (1, .ref a)]) rfl rfl (by intro q hq; simp only [List.mem_cons, List.not_mem_nil, or_false] at hq; rcases hq with rfl | rfl | rfl | rfl | rfl | rfl | rfl | rfl | rfl | rfl | rfl | rfl | rfl | rfl <;> rfl) ?_
  exact KK
