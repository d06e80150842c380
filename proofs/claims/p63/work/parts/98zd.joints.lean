/-! THE LAW: what joins the sections of mesh. Rows laid by program (wip/p63/wk.py, hw.py, mk98zd.py). -/
theorem l_m0 {w : pW} {pre post : pW} {b : Nat} (hb : pre.length = b) {S : St} {L M : List St} {K : St} (hO : OB pre post b S L M K w) {a T : Nat} (hT : S.tn = (T : Int)) {Φ : Option Value → pW → Prop} (KK : qE 151 (27, [(8, .int (iI 0)), (7, .int (iI 0)), (6, .int (iI 0)), (5, .int (iI 0)), (4, .int (iI 0)), (3, .int (iI 0)), (2, .int (iI (T : Int))), (0, .ref b), (1, .ref a)], [.int (iI 40), .int (iI 40)], w) Φ) : qC 151 [.ref b, .ref a] w Φ := by
  have h1 := o_is1 hb hO
  rw [hT] at h1
  refine pc_run (lv := [(0, .ref b), (1, .ref a)]) rfl ?_
  refine pe_go (pc := 0) rfl (s_aload_n rfl) ?_
  refine pe_go (pc := 1) rfl (s_iconst (z := 1) rfl) ?_
  refine pe_call rfl (s_invV rfl (OB.obj hb hO) rfl rfl) (h1) ?_
  refine pe_go (pc := 5) rfl (s_istore_n (lv' := [(2, .int (iI (T : Int))), (0, .ref b), (1, .ref a)]) rfl) ?_
  refine pe_go (pc := 6) rfl (s_iconst (z := 0) rfl) ?_
  refine pe_go (pc := 7) rfl (s_istore_n (lv' := [(3, .int (iI 0)), (2, .int (iI (T : Int))), (0, .ref b), (1, .ref a)]) rfl) ?_
  refine pe_go (pc := 8) rfl (s_iconst (z := 0) rfl) ?_
  refine pe_go (pc := 9) rfl (s_istore (lv' := [(4, .int (iI 0)), (3, .int (iI 0)), (2, .int (iI (T : Int))), (0, .ref b), (1, .ref a)]) rfl) ?_
  refine pe_go (pc := 11) rfl (s_iconst (z := 0) rfl) ?_
  refine pe_go (pc := 12) rfl (s_istore (lv' := [(5, .int (iI 0)), (4, .int (iI 0)), (3, .int (iI 0)), (2, .int (iI (T : Int))), (0, .ref b), (1, .ref a)]) rfl) ?_
  refine pe_go (pc := 14) rfl (s_iconst (z := 0) rfl) ?_
  refine pe_go (pc := 15) rfl (s_istore (lv' := [(6, .int (iI 0)), (5, .int (iI 0)), (4, .int (iI 0)), (3, .int (iI 0)), (2, .int (iI (T : Int))), (0, .ref b), (1, .ref a)]) rfl) ?_
  refine pe_go (pc := 17) rfl (s_iconst (z := 0) rfl) ?_
  refine pe_go (pc := 18) rfl (s_istore (lv' := [(7, .int (iI 0)), (6, .int (iI 0)), (5, .int (iI 0)), (4, .int (iI 0)), (3, .int (iI 0)), (2, .int (iI (T : Int))), (0, .ref b), (1, .ref a)]) rfl) ?_
  refine pe_go (pc := 20) rfl (s_iconst (z := 0) rfl) ?_
  refine pe_go (pc := 21) rfl (s_istore (lv' := [(8, .int (iI 0)), (7, .int (iI 0)), (6, .int (iI 0)), (5, .int (iI 0)), (4, .int (iI 0)), (3, .int (iI 0)), (2, .int (iI (T : Int))), (0, .ref b), (1, .ref a)]) rfl) ?_
  refine pe_go (pc := 23) rfl (s_bipush (z := 40) rfl) ?_
  refine pe_go (pc := 25) rfl (s_bipush (z := 40) rfl) ?_
  refine pe_few (lv := [(8, .int (iI 0)), (7, .int (iI 0)), (6, .int (iI 0)), (5, .int (iI 0)), (4, .int (iI 0)), (3, .int (iI 0)), (2, .int (iI (T : Int))), (0, .ref b), (1, .ref a)]) rfl rfl (by intro q hq; simp only [List.mem_cons, List.not_mem_nil, or_false] at hq; rcases hq with rfl | rfl | rfl | rfl | rfl | rfl | rfl | rfl | rfl <;> rfl) ?_
  exact KK
theorem l_m31 {w : pW} {a b q T : Nat} {x3 x4 x5 x6 x7 x8 : Int} {Φ : Option Value → pW → Prop} (KK : qE 151 (36, [(10, .int (iI ((0 : Nat) : Int))), (9, .ref q), (8, .int (iI x8)), (7, .int (iI x7)), (6, .int (iI x6)), (5, .int (iI x5)), (4, .int (iI x4)), (3, .int (iI x3)), (2, .int (iI (T : Int))), (0, .ref b), (1, .ref a)], [], w) Φ) : qE 151 (31, [(8, .int (iI x8)), (7, .int (iI x7)), (6, .int (iI x6)), (5, .int (iI x5)), (4, .int (iI x4)), (3, .int (iI x3)), (2, .int (iI (T : Int))), (0, .ref b), (1, .ref a)], [.ref q], w) Φ := by
  refine pe_go (pc := 31) rfl (s_astore (lv' := [(9, .ref q), (8, .int (iI x8)), (7, .int (iI x7)), (6, .int (iI x6)), (5, .int (iI x5)), (4, .int (iI x4)), (3, .int (iI x3)), (2, .int (iI (T : Int))), (0, .ref b), (1, .ref a)]) rfl) ?_
  refine pe_go (pc := 33) rfl (s_iconst (z := 0) rfl) ?_
  refine pe_go (pc := 34) rfl (s_istore (lv' := [(10, .int (iI 0)), (9, .ref q), (8, .int (iI x8)), (7, .int (iI x7)), (6, .int (iI x6)), (5, .int (iI x5)), (4, .int (iI x4)), (3, .int (iI x3)), (2, .int (iI (T : Int))), (0, .ref b), (1, .ref a)]) rfl) ?_
  refine pe_few (lv := [(10, .int (iI ((0 : Nat) : Int))), (9, .ref q), (8, .int (iI x8)), (7, .int (iI x7)), (6, .int (iI x6)), (5, .int (iI x5)), (4, .int (iI x4)), (3, .int (iI x3)), (2, .int (iI (T : Int))), (0, .ref b), (1, .ref a)]) rfl rfl (by intro q hq; simp only [List.mem_cons, List.not_mem_nil, or_false] at hq; rcases hq with rfl | rfl | rfl | rfl | rfl | rfl | rfl | rfl | rfl | rfl | rfl <;> rfl) ?_
  exact KK
theorem l_m464 {w : pW} {a b q T : Nat} {x3 x4 x5 x6 x7 x8 : Int} {Φ : Option Value → pW → Prop} (KK : qE 151 (467, [(10, .int (iI ((0 : Nat) : Int))), (9, .ref q), (8, .int (iI x8)), (7, .int (iI x7)), (6, .int (iI x6)), (5, .int (iI x5)), (4, .int (iI x4)), (3, .int (iI x3)), (2, .int (iI (T : Int))), (0, .ref b), (1, .ref a)], [], w) Φ) : qE 151 (464, [(9, .ref q), (8, .int (iI x8)), (7, .int (iI x7)), (6, .int (iI x6)), (5, .int (iI x5)), (4, .int (iI x4)), (3, .int (iI x3)), (2, .int (iI (T : Int))), (0, .ref b), (1, .ref a)], [], w) Φ := by
  refine pe_go (pc := 464) rfl (s_iconst (z := 0) rfl) ?_
  refine pe_go (pc := 465) rfl (s_istore (lv' := [(10, .int (iI 0)), (9, .ref q), (8, .int (iI x8)), (7, .int (iI x7)), (6, .int (iI x6)), (5, .int (iI x5)), (4, .int (iI x4)), (3, .int (iI x3)), (2, .int (iI (T : Int))), (0, .ref b), (1, .ref a)]) rfl) ?_
  refine pe_few (lv := [(10, .int (iI ((0 : Nat) : Int))), (9, .ref q), (8, .int (iI x8)), (7, .int (iI x7)), (6, .int (iI x6)), (5, .int (iI x5)), (4, .int (iI x4)), (3, .int (iI x3)), (2, .int (iI (T : Int))), (0, .ref b), (1, .ref a)]) rfl rfl (by intro q hq; simp only [List.mem_cons, List.not_mem_nil, or_false] at hq; rcases hq with rfl | rfl | rfl | rfl | rfl | rfl | rfl | rfl | rfl | rfl | rfl <;> rfl) ?_
  exact KK
theorem l_m954 {w : pW} {a b q T : Nat} {x3 x4 x5 x6 x7 x8 : Int} {Φ : Option Value → pW → Prop} (KK : qE 151 (957, [(10, .int (iI ((0 : Nat) : Int))), (9, .ref q), (8, .int (iI x8)), (7, .int (iI x7)), (6, .int (iI x6)), (5, .int (iI x5)), (4, .int (iI x4)), (3, .int (iI x3)), (2, .int (iI (T : Int))), (0, .ref b), (1, .ref a)], [], w) Φ) : qE 151 (954, [(9, .ref q), (8, .int (iI x8)), (7, .int (iI x7)), (6, .int (iI x6)), (5, .int (iI x5)), (4, .int (iI x4)), (3, .int (iI x3)), (2, .int (iI (T : Int))), (0, .ref b), (1, .ref a)], [], w) Φ := by
  refine pe_go (pc := 954) rfl (s_iconst (z := 0) rfl) ?_
  refine pe_go (pc := 955) rfl (s_istore (lv' := [(10, .int (iI 0)), (9, .ref q), (8, .int (iI x8)), (7, .int (iI x7)), (6, .int (iI x6)), (5, .int (iI x5)), (4, .int (iI x4)), (3, .int (iI x3)), (2, .int (iI (T : Int))), (0, .ref b), (1, .ref a)]) rfl) ?_
  refine pe_few (lv := [(10, .int (iI ((0 : Nat) : Int))), (9, .ref q), (8, .int (iI x8)), (7, .int (iI x7)), (6, .int (iI x6)), (5, .int (iI x5)), (4, .int (iI x4)), (3, .int (iI x3)), (2, .int (iI (T : Int))), (0, .ref b), (1, .ref a)]) rfl rfl (by intro q hq; simp only [List.mem_cons, List.not_mem_nil, or_false] at hq; rcases hq with rfl | rfl | rfl | rfl | rfl | rfl | rfl | rfl | rfl | rfl | rfl <;> rfl) ?_
  exact KK
theorem l_m1023 {w : pW} {pre post : pW} {b : Nat} (hb : pre.length = b) {S : St} {L M : List St} {K : St} (hO : OB pre post b S L M K w) {O Q : Nat → Prop} {a : Nat} {X : Sh} (hS : shAt w O Q a X) (hX9 : ∀ (k : Nat) (x y z : Int), k < 40 → X.1 k = some (x, y, z) → inSq x y ∧ -9999 ≤ z ∧ z ≤ 9999) {T : Nat} (hT : S.tn = (T : Int)) (hT2 : T ≤ 74) (hC : ∀ t k : Nat, t < T → k < 3 → S.cn t k < 40 ∧ (X.1 (S.cn t k)).isSome = true) {q : Nat} {x3 x4 x5 x6 x7 x8 : Int} {Φ : Option Value → pW → Prop} (KK : ∀ (w' : pW) (f : Nat → Int) (l : pW), w' = w ++ (.inl (0, 2, .inl (fun j => iI (f j))) :: l) → f 0 = X.obt S T → f 1 = X.rgt S T → l.length = T → pwsz l = 3 * T → qE 151 (1029, [(9, .ref q), (8, .int (iI x8)), (7, .int (iI x7)), (6, .int (iI x6)), (5, .int (iI x5)), (4, .int (iI x4)), (3, .int (iI x3)), (2, .int (iI (T : Int))), (0, .ref b), (1, .ref a)], [.ref w.length], w') Φ) : qE 151 (1023, [(9, .ref q), (8, .int (iI x8)), (7, .int (iI x7)), (6, .int (iI x6)), (5, .int (iI x5)), (4, .int (iI x4)), (3, .int (iI x3)), (2, .int (iI (T : Int))), (0, .ref b), (1, .ref a)], [], w) Φ := by
  refine pe_go (pc := 1023) rfl (s_aload_n rfl) ?_
  refine pe_go (pc := 1024) rfl (s_aload_n rfl) ?_
  refine pe_go (pc := 1025) rfl (s_iload_n rfl) ?_
  refine pe_callE rfl (s_invS rfl rfl rfl) (w_angles rfl hb hO hS hX9 hT hT2 hC (Nat.le_refl T)) ?_
  rintro _ w1 ⟨rfl, f1, l1, ew1, hf1, hg1, hl1, hz1⟩
  refine pe_few (lv := [(9, .ref q), (8, .int (iI x8)), (7, .int (iI x7)), (6, .int (iI x6)), (5, .int (iI x5)), (4, .int (iI x4)), (3, .int (iI x3)), (2, .int (iI (T : Int))), (0, .ref b), (1, .ref a)]) rfl rfl (by intro q hq; simp only [List.mem_cons, List.not_mem_nil, or_false] at hq; rcases hq with rfl | rfl | rfl | rfl | rfl | rfl | rfl | rfl | rfl | rfl <;> rfl) ?_
  exact KK _ _ _ ew1 hf1 hg1 hl1 hz1
theorem l_m1029 {w : pW} {a b q T : Nat} {x3 x4 x5 x6 x7 x8 : Int} {Φ : Option Value → pW → Prop} {m g : Nat} (hm : w.length = m) (KK : qE 151 (1043, [(13, .int (iI ((0 : Nat) : Int))), (12, .int (iI 0)), (11, .ref m), (10, .ref g), (9, .ref q), (8, .int (iI x8)), (7, .int (iI x7)), (6, .int (iI x6)), (5, .int (iI x5)), (4, .int (iI x4)), (3, .int (iI x3)), (2, .int (iI (T : Int))), (0, .ref b), (1, .ref a)], [], w ++ [.inl (0, 40, .inl (fun j => iI ((fun _ => (0 : Int)) j)))]) Φ) : qE 151 (1029, [(9, .ref q), (8, .int (iI x8)), (7, .int (iI x7)), (6, .int (iI x6)), (5, .int (iI x5)), (4, .int (iI x4)), (3, .int (iI x3)), (2, .int (iI (T : Int))), (0, .ref b), (1, .ref a)], [.ref g], w) Φ := by
  refine pe_go (pc := 1029) rfl (s_astore (lv' := [(10, .ref g), (9, .ref q), (8, .int (iI x8)), (7, .int (iI x7)), (6, .int (iI x6)), (5, .int (iI x5)), (4, .int (iI x4)), (3, .int (iI x3)), (2, .int (iI (T : Int))), (0, .ref b), (1, .ref a)]) rfl) ?_
  refine pe_go (pc := 1031) rfl (s_bipush (z := 40) rfl) ?_
  refine pe_go (pc := 1033) rfl (s_newM (n := 40) hm rfl (by decide)) ?_
  refine pe_go (pc := 1035) rfl (s_astore (lv' := [(11, .ref m), (10, .ref g), (9, .ref q), (8, .int (iI x8)), (7, .int (iI x7)), (6, .int (iI x6)), (5, .int (iI x5)), (4, .int (iI x4)), (3, .int (iI x3)), (2, .int (iI (T : Int))), (0, .ref b), (1, .ref a)]) rfl) ?_
  refine pe_go (pc := 1037) rfl (s_iconst (z := 0) rfl) ?_
  refine pe_go (pc := 1038) rfl (s_istore (lv' := [(12, .int (iI 0)), (11, .ref m), (10, .ref g), (9, .ref q), (8, .int (iI x8)), (7, .int (iI x7)), (6, .int (iI x6)), (5, .int (iI x5)), (4, .int (iI x4)), (3, .int (iI x3)), (2, .int (iI (T : Int))), (0, .ref b), (1, .ref a)]) rfl) ?_
  refine pe_go (pc := 1040) rfl (s_iconst (z := 0) rfl) ?_
  refine pe_go (pc := 1041) rfl (s_istore (lv' := [(13, .int (iI 0)), (12, .int (iI 0)), (11, .ref m), (10, .ref g), (9, .ref q), (8, .int (iI x8)), (7, .int (iI x7)), (6, .int (iI x6)), (5, .int (iI x5)), (4, .int (iI x4)), (3, .int (iI x3)), (2, .int (iI (T : Int))), (0, .ref b), (1, .ref a)]) rfl) ?_
  refine pe_few (lv := [(13, .int (iI ((0 : Nat) : Int))), (12, .int (iI 0)), (11, .ref m), (10, .ref g), (9, .ref q), (8, .int (iI x8)), (7, .int (iI x7)), (6, .int (iI x6)), (5, .int (iI x5)), (4, .int (iI x4)), (3, .int (iI x3)), (2, .int (iI (T : Int))), (0, .ref b), (1, .ref a)]) rfl rfl (by intro q hq; simp only [List.mem_cons, List.not_mem_nil, or_false] at hq; rcases hq with rfl | rfl | rfl | rfl | rfl | rfl | rfl | rfl | rfl | rfl | rfl | rfl | rfl | rfl <;> rfl) ?_
  exact KK
