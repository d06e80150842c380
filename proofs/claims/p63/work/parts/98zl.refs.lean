/-! THE LAW: the thinnest triangle by fractions, half way along its longest side. Rows laid by program (wip/p63/wk.py, hw.py, mk98zl.py). -/
theorem zmL_lt {x y : Int} (h : x < y) : zmaxL x y = y := if_pos h
theorem zmL_ge {x y : Int} (h : ¬ x < y) : zmaxL x y = x := if_neg h

theorem mulself_pos {a : Int} (h : a ≠ 0) : 0 < a * a := by
  rcases Int.lt_or_gt_of_ne h with z | z
  · exact Int.mul_pos_of_neg_of_neg z z
  · exact Int.mul_pos z z
theorem St.Ok.sq_pos {S : St} (h : S.Ok) {a b : Nat} (ha : a < 40) (hb : b < 40) (sa : S.has a) (sb : S.has b) (hab : a ≠ b) : 0 < S.sq a b ∧ S.sq a b ≤ 8000000 := by
  have A := h.B a ha
  have B := h.B b hb
  have hd := h.M.1.2.1 a b ha hb sa sb
  have u := sq_b2 (a := S.xs a - S.xs b) (by omega) (by omega)
  have v := sq_b2 (a := S.ys a - S.ys b) (by omega) (by omega)
  unfold St.sq
  refine ⟨?_, by omega⟩
  by_cases e : S.xs a = S.xs b
  · have n0 : S.ys a - S.ys b ≠ 0 := fun z => hab (hd e (by omega))
    have := mulself_pos n0
    omega
  · have n0 : S.xs a - S.xs b ≠ 0 := by omega
    have := mulself_pos n0
    omega
theorem l_rfE {w : pW} {b t : Nat} {k c many : Nat} {at9 be up bst : Int} {T : St} (ht : tb w t T) {O Q : Nat → Prop} {a : Nat} {X : Sh} {pa fa ha : Nat} {pf gf hf : Nat → Option Nat} {ff : Nat → Nat} (hS : shP w O Q a X pa fa ha pf gf hf ff) (hR : Rel T X) {i p0 p1 p2 N9 : Nat} (hN : T.tn = (N9 : Int)) (hN2 : N9 ≤ 74) (hi : i < N9) (k3 : T.tri3 i p0 p1 p2) {Φ : Option Value → pW → Prop} (KK : ∀ (q9 : Int) (e9 : Nat), q9 = T.lq i → e9 = T.lgs i → qE 156 (171, [(15, .int (iI (e9 : Int))), (13, .long (lI q9)), (12, .int (iI (i : Int))), (11, .int (iI at9)), (9, .long (lI be)), (7, .long (lI up)), (6, .int (iI bst)), (5, .int (iI (k : Int))), (4, .int (iI (c : Int))), (3, .ref t), (0, .ref b), (1, .ref a), (2, .int (iI (many : Int)))], [], w) Φ) : qE 156 (48, [(12, .int (iI (i : Int))), (11, .int (iI at9)), (9, .long (lI be)), (7, .long (lI up)), (6, .int (iI bst)), (5, .int (iI (k : Int))), (4, .int (iI (c : Int))), (3, .ref t), (0, .ref b), (1, .ref a), (2, .int (iI (many : Int)))], [], w) Φ := by
  have hTo := tb_ok ht
  obtain ⟨L, M, K, pre, post, hb, hO⟩ := id ht
  obtain ⟨hb9, h0, h1, h2, h3, h4, h5, h6, h7, h8, h9⟩ := hS
  have k9 := k3
  obtain ⟨⟨hp0, hp1, hp2⟩, ⟨o1, o2⟩, ⟨hc0, hc1, hc2⟩, ⟨s0, s1, s2⟩, hpos, -, -, -⟩ := k9
  obtain ⟨n01, n12, n20⟩ := St.sd3_ne hpos
  obtain ⟨r0, er0, -, hr0⟩ := h3 p0 _ _ _ hp0 (hR.pt hp0 s0)
  obtain ⟨r1, er1, -, hr1⟩ := h3 p1 _ _ _ hp1 (hR.pt hp1 s1)
  obtain ⟨r2, er2, -, hr2⟩ := h3 p2 _ _ _ hp2 (hR.pt hp2 s2)
  obtain ⟨d0, g0⟩ : ∃ d, T.sq p0 p1 = d := ⟨_, rfl⟩
  have b0 := hTo.sq_pos hp0 hp1 s0 s1 n01
  rw [g0] at b0
  have hq0 : T.qs i 0 = d0 := by
    unfold St.qs
    rw [show (0 + 1) % 3 = 1 from rfl, hc0, hc1, g0]
  obtain ⟨d1, g1⟩ : ∃ d, T.sq p1 p2 = d := ⟨_, rfl⟩
  have b1 := hTo.sq_pos hp1 hp2 s1 s2 n12
  rw [g1] at b1
  have hq1 : T.qs i 1 = d1 := by
    unfold St.qs
    rw [show (1 + 1) % 3 = 2 from rfl, hc1, hc2, g1]
  obtain ⟨d2, g2⟩ : ∃ d, T.sq p2 p0 = d := ⟨_, rfl⟩
  have b2 := hTo.sq_pos hp2 hp0 s2 s0 n20
  rw [g2] at b2
  have hq2 : T.qs i 2 = d2 := by
    unfold St.qs
    rw [show (2 + 1) % 3 = 0 from rfl, hc2, hc0, g2]
  have hlg : T.lgs i = if d0 < d1 then (if d1 < d2 then 2 else 1) else (if d0 < d2 then 2 else 0) := by
    unfold St.lgs
    rw [hq0, hq1, hq2]
  rcases Int.lt_trichotomy d1 d0 with c1 | c1 | c1
  · skip
    rcases Int.lt_trichotomy d2 d0 with c2 | c2 | c2
    · skip
      refine pe_go (pc := 48) rfl s_lconst0 ?_
      refine pe_go (pc := 49) rfl (s_lstore (lv' := [(13, .long (lI 0)), (12, .int (iI (i : Int))), (11, .int (iI at9)), (9, .long (lI be)), (7, .long (lI up)), (6, .int (iI bst)), (5, .int (iI (k : Int))), (4, .int (iI (c : Int))), (3, .ref t), (0, .ref b), (1, .ref a), (2, .int (iI (many : Int)))]) rfl) ?_
      refine pe_go (pc := 51) rfl (s_iconst (z := 0) rfl) ?_
      refine pe_go (pc := 52) rfl (s_istore (lv' := [(15, .int (iI 0)), (13, .long (lI 0)), (12, .int (iI (i : Int))), (11, .int (iI at9)), (9, .long (lI be)), (7, .long (lI up)), (6, .int (iI bst)), (5, .int (iI (k : Int))), (4, .int (iI (c : Int))), (3, .ref t), (0, .ref b), (1, .ref a), (2, .int (iI (many : Int)))]) rfl) ?_
      refine pe_go (pc := 54) rfl (s_iconst (z := 0) rfl) ?_
      refine pe_go (pc := 55) rfl (s_istore (lv' := [(16, .int (iI 0)), (15, .int (iI 0)), (13, .long (lI 0)), (12, .int (iI (i : Int))), (11, .int (iI at9)), (9, .long (lI be)), (7, .long (lI up)), (6, .int (iI bst)), (5, .int (iI (k : Int))), (4, .int (iI (c : Int))), (3, .ref t), (0, .ref b), (1, .ref a), (2, .int (iI (many : Int)))]) rfl) ?_
      refine pe_go (pc := 57) rfl (s_iload rfl) ?_
      refine pe_go (pc := 59) rfl (s_iconst (z := 3) rfl) ?_
      refine pe_go rfl (s_icmp_ge_f ⟨by decide, by decide⟩ ⟨by decide, by decide⟩ (by decide)) ?_
      refine pe_go (pc := 63) rfl (s_aload_n rfl) ?_
      refine pe_go (pc := 64) rfl (s_getf (v := .ref pa) h0 rfl) ?_
      refine pe_go (pc := 67) rfl (s_aload_n rfl) ?_
      refine pe_go (pc := 68) rfl (s_iload rfl) ?_
      refine pe_go (pc := 70) rfl (s_iload rfl) ?_
      refine pe_call rfl (s_invV rfl (OB.obj hb hO) rfl rfl) (corner_at hb hO hN hN2 (t := i) (k := 0) hi (by decide) hc0) ?_
      refine pe_go (pc := 75) rfl (s_aald h1 (k := p0) (by omega) (by omega) er0) ?_
      refine pe_go (pc := 76) rfl (s_astore (lv' := [(17, .ref r0), (16, .int (iI 0)), (15, .int (iI 0)), (13, .long (lI 0)), (12, .int (iI (i : Int))), (11, .int (iI at9)), (9, .long (lI be)), (7, .long (lI up)), (6, .int (iI bst)), (5, .int (iI (k : Int))), (4, .int (iI (c : Int))), (3, .ref t), (0, .ref b), (1, .ref a), (2, .int (iI (many : Int)))]) rfl) ?_
      refine pe_go (pc := 78) rfl (s_aload_n rfl) ?_
      refine pe_go (pc := 79) rfl (s_getf (v := .ref pa) h0 rfl) ?_
      refine pe_go (pc := 82) rfl (s_aload_n rfl) ?_
      refine pe_go (pc := 83) rfl (s_iload rfl) ?_
      refine pe_go (pc := 85) rfl (s_iload rfl) ?_
      refine pe_go (pc := 87) rfl (s_iconst (z := 1) rfl) ?_
      refine pe_go (q := (89, [(17, .ref r0), (16, .int (iI 0)), (15, .int (iI 0)), (13, .long (lI 0)), (12, .int (iI (i : Int))), (11, .int (iI at9)), (9, .long (lI be)), (7, .long (lI up)), (6, .int (iI bst)), (5, .int (iI (k : Int))), (4, .int (iI (c : Int))), (3, .ref t), (0, .ref b), (1, .ref a), (2, .int (iI (many : Int)))], [.int (iI 1), .int (iI (i : Int)), .ref t, .ref pa], w)) rfl s_iadd ?_
      refine pe_go (pc := 89) rfl (s_iconst (z := 3) rfl) ?_
      refine pe_go (pc := 90) rfl (s_irem ⟨by decide, by decide⟩ ⟨by decide, by decide⟩ (by decide) (by decide) (show Int.tmod 1 3 = 1 from by decide)) ?_
      refine pe_call rfl (s_invV rfl (OB.obj hb hO) rfl rfl) (corner_at hb hO hN hN2 (t := i) (k := 1) hi (by decide) hc1) ?_
      refine pe_go (pc := 94) rfl (s_aald h1 (k := p1) (by omega) (by omega) er1) ?_
      refine pe_go (pc := 95) rfl (s_astore (lv' := [(18, .ref r1), (17, .ref r0), (16, .int (iI 0)), (15, .int (iI 0)), (13, .long (lI 0)), (12, .int (iI (i : Int))), (11, .int (iI at9)), (9, .long (lI be)), (7, .long (lI up)), (6, .int (iI bst)), (5, .int (iI (k : Int))), (4, .int (iI (c : Int))), (3, .ref t), (0, .ref b), (1, .ref a), (2, .int (iI (many : Int)))]) rfl) ?_
      refine pe_go (pc := 97) rfl (s_aload rfl) ?_
      refine pe_go (pc := 99) rfl (s_iconst (z := 0) rfl) ?_
      refine pe_go (pc := 100) rfl (s_iald (n := 3) (f := row3 (T.xs p0) (T.ys p0) (T.hs p0)) (v := T.xs p0) hr0 (k := 0) (by omega) (by omega) (by decide) rfl) ?_
      refine pe_go (pc := 101) rfl (s_aload rfl) ?_
      refine pe_go (pc := 103) rfl (s_iconst (z := 0) rfl) ?_
      refine pe_go (pc := 104) rfl (s_iald (n := 3) (f := row3 (T.xs p1) (T.ys p1) (T.hs p1)) (v := T.xs p1) hr1 (k := 0) (by omega) (by omega) (by decide) rfl) ?_
      refine pe_go (pc := 105) rfl s_isub ?_
      refine pe_go (pc := 106) rfl (s_aload rfl) ?_
      refine pe_go (pc := 108) rfl (s_iconst (z := 0) rfl) ?_
      refine pe_go (pc := 109) rfl (s_iald (n := 3) (f := row3 (T.xs p0) (T.ys p0) (T.hs p0)) (v := T.xs p0) hr0 (k := 0) (by omega) (by omega) (by decide) rfl) ?_
      refine pe_go (pc := 110) rfl (s_aload rfl) ?_
      refine pe_go (pc := 112) rfl (s_iconst (z := 0) rfl) ?_
      refine pe_go (pc := 113) rfl (s_iald (n := 3) (f := row3 (T.xs p1) (T.ys p1) (T.hs p1)) (v := T.xs p1) hr1 (k := 0) (by omega) (by omega) (by decide) rfl) ?_
      refine pe_go (pc := 114) rfl s_isub ?_
      refine pe_go (pc := 115) rfl s_imul ?_
      refine pe_go (pc := 116) rfl (s_aload rfl) ?_
      refine pe_go (pc := 118) rfl (s_iconst (z := 1) rfl) ?_
      refine pe_go (pc := 119) rfl (s_iald (n := 3) (f := row3 (T.xs p0) (T.ys p0) (T.hs p0)) (v := T.ys p0) hr0 (k := 1) (by omega) (by omega) (by decide) rfl) ?_
      refine pe_go (pc := 120) rfl (s_aload rfl) ?_
      refine pe_go (pc := 122) rfl (s_iconst (z := 1) rfl) ?_
      refine pe_go (pc := 123) rfl (s_iald (n := 3) (f := row3 (T.xs p1) (T.ys p1) (T.hs p1)) (v := T.ys p1) hr1 (k := 1) (by omega) (by omega) (by decide) rfl) ?_
      refine pe_go (pc := 124) rfl s_isub ?_
      refine pe_go (pc := 125) rfl (s_aload rfl) ?_
      refine pe_go (pc := 127) rfl (s_iconst (z := 1) rfl) ?_
      refine pe_go (pc := 128) rfl (s_iald (n := 3) (f := row3 (T.xs p0) (T.ys p0) (T.hs p0)) (v := T.ys p0) hr0 (k := 1) (by omega) (by omega) (by decide) rfl) ?_
      refine pe_go (pc := 129) rfl (s_aload rfl) ?_
      refine pe_go (pc := 131) rfl (s_iconst (z := 1) rfl) ?_
      refine pe_go (pc := 132) rfl (s_iald (n := 3) (f := row3 (T.xs p1) (T.ys p1) (T.hs p1)) (v := T.ys p1) hr1 (k := 1) (by omega) (by omega) (by decide) rfl) ?_
      refine pe_go (pc := 133) rfl s_isub ?_
      refine pe_go (pc := 134) rfl s_imul ?_
      refine pe_go (pc := 135) rfl s_iadd ?_
      show qE 156 (136, _, [.int (iI (T.sq p0 p1))], w) Φ
      rw [g0]
      refine pe_go (pc := 136) rfl (s_i2l ⟨by omega, by omega⟩) ?_
      refine pe_go (pc := 137) rfl (s_lstore (lv' := [(19, .long (lI d0)), (18, .ref r1), (17, .ref r0), (16, .int (iI 0)), (15, .int (iI 0)), (13, .long (lI 0)), (12, .int (iI (i : Int))), (11, .int (iI at9)), (9, .long (lI be)), (7, .long (lI up)), (6, .int (iI bst)), (5, .int (iI (k : Int))), (4, .int (iI (c : Int))), (3, .ref t), (0, .ref b), (1, .ref a), (2, .int (iI (many : Int)))]) rfl) ?_
      refine pe_go (pc := 139) rfl (s_lload rfl) ?_
      refine pe_go (pc := 141) rfl (s_lload rfl) ?_
      refine pe_go rfl (s_lcmp_gt ⟨by omega, by omega⟩ ⟨by omega, by omega⟩ (by omega)) ?_
      refine pe_go rfl (s_if_le_f ⟨by decide, by decide⟩ (by decide)) ?_
      refine pe_go (pc := 147) rfl (s_iload rfl) ?_
      refine pe_go (pc := 149) rfl s_goto ?_
      refine pe_go (pc := 154) rfl (s_istore (lv' := [(15, .int (iI 0)), (19, .long (lI d0)), (18, .ref r1), (17, .ref r0), (16, .int (iI 0)), (13, .long (lI 0)), (12, .int (iI (i : Int))), (11, .int (iI at9)), (9, .long (lI be)), (7, .long (lI up)), (6, .int (iI bst)), (5, .int (iI (k : Int))), (4, .int (iI (c : Int))), (3, .ref t), (0, .ref b), (1, .ref a), (2, .int (iI (many : Int)))]) rfl) ?_
      refine pe_go (pc := 156) rfl (s_lload rfl) ?_
      refine pe_go (pc := 158) rfl (s_lload rfl) ?_
      refine pe_call rfl (s_invS rfl rfl rfl) (c_maxL (x := 0) (y := d0) ⟨by omega, by omega⟩ ⟨by omega, by omega⟩) ?_
      rw [zmL_lt (by omega)]
      refine pe_go (pc := 163) rfl (s_lstore (lv' := [(13, .long (lI d0)), (15, .int (iI 0)), (19, .long (lI d0)), (18, .ref r1), (17, .ref r0), (16, .int (iI 0)), (12, .int (iI (i : Int))), (11, .int (iI at9)), (9, .long (lI be)), (7, .long (lI up)), (6, .int (iI bst)), (5, .int (iI (k : Int))), (4, .int (iI (c : Int))), (3, .ref t), (0, .ref b), (1, .ref a), (2, .int (iI (many : Int)))]) rfl) ?_
      refine pe_go (pc := 165) rfl (s_iinc (x := 0) (y := 1) rfl (by omega) (lv' := [(16, .int (iI 1)), (13, .long (lI d0)), (15, .int (iI 0)), (19, .long (lI d0)), (18, .ref r1), (17, .ref r0), (12, .int (iI (i : Int))), (11, .int (iI at9)), (9, .long (lI be)), (7, .long (lI up)), (6, .int (iI bst)), (5, .int (iI (k : Int))), (4, .int (iI (c : Int))), (3, .ref t), (0, .ref b), (1, .ref a), (2, .int (iI (many : Int)))]) rfl) ?_
      refine pe_go (pc := 168) rfl s_goto ?_
      refine pe_go (pc := 57) rfl (s_iload rfl) ?_
      refine pe_go (pc := 59) rfl (s_iconst (z := 3) rfl) ?_
      refine pe_go rfl (s_icmp_ge_f ⟨by decide, by decide⟩ ⟨by decide, by decide⟩ (by decide)) ?_
      refine pe_go (pc := 63) rfl (s_aload_n rfl) ?_
      refine pe_go (pc := 64) rfl (s_getf (v := .ref pa) h0 rfl) ?_
      refine pe_go (pc := 67) rfl (s_aload_n rfl) ?_
      refine pe_go (pc := 68) rfl (s_iload rfl) ?_
      refine pe_go (pc := 70) rfl (s_iload rfl) ?_
      refine pe_call rfl (s_invV rfl (OB.obj hb hO) rfl rfl) (corner_at hb hO hN hN2 (t := i) (k := 1) hi (by decide) hc1) ?_
      refine pe_go (pc := 75) rfl (s_aald h1 (k := p1) (by omega) (by omega) er1) ?_
      refine pe_go (pc := 76) rfl (s_astore (lv' := [(17, .ref r1), (16, .int (iI 1)), (13, .long (lI d0)), (15, .int (iI 0)), (19, .long (lI d0)), (18, .ref r1), (12, .int (iI (i : Int))), (11, .int (iI at9)), (9, .long (lI be)), (7, .long (lI up)), (6, .int (iI bst)), (5, .int (iI (k : Int))), (4, .int (iI (c : Int))), (3, .ref t), (0, .ref b), (1, .ref a), (2, .int (iI (many : Int)))]) rfl) ?_
      refine pe_go (pc := 78) rfl (s_aload_n rfl) ?_
      refine pe_go (pc := 79) rfl (s_getf (v := .ref pa) h0 rfl) ?_
      refine pe_go (pc := 82) rfl (s_aload_n rfl) ?_
      refine pe_go (pc := 83) rfl (s_iload rfl) ?_
      refine pe_go (pc := 85) rfl (s_iload rfl) ?_
      refine pe_go (pc := 87) rfl (s_iconst (z := 1) rfl) ?_
      refine pe_go (q := (89, [(17, .ref r1), (16, .int (iI 1)), (13, .long (lI d0)), (15, .int (iI 0)), (19, .long (lI d0)), (18, .ref r1), (12, .int (iI (i : Int))), (11, .int (iI at9)), (9, .long (lI be)), (7, .long (lI up)), (6, .int (iI bst)), (5, .int (iI (k : Int))), (4, .int (iI (c : Int))), (3, .ref t), (0, .ref b), (1, .ref a), (2, .int (iI (many : Int)))], [.int (iI 2), .int (iI (i : Int)), .ref t, .ref pa], w)) rfl s_iadd ?_
      refine pe_go (pc := 89) rfl (s_iconst (z := 3) rfl) ?_
      refine pe_go (pc := 90) rfl (s_irem ⟨by decide, by decide⟩ ⟨by decide, by decide⟩ (by decide) (by decide) (show Int.tmod 2 3 = 2 from by decide)) ?_
      refine pe_call rfl (s_invV rfl (OB.obj hb hO) rfl rfl) (corner_at hb hO hN hN2 (t := i) (k := 2) hi (by decide) hc2) ?_
      refine pe_go (pc := 94) rfl (s_aald h1 (k := p2) (by omega) (by omega) er2) ?_
      refine pe_go (pc := 95) rfl (s_astore (lv' := [(18, .ref r2), (17, .ref r1), (16, .int (iI 1)), (13, .long (lI d0)), (15, .int (iI 0)), (19, .long (lI d0)), (12, .int (iI (i : Int))), (11, .int (iI at9)), (9, .long (lI be)), (7, .long (lI up)), (6, .int (iI bst)), (5, .int (iI (k : Int))), (4, .int (iI (c : Int))), (3, .ref t), (0, .ref b), (1, .ref a), (2, .int (iI (many : Int)))]) rfl) ?_
      refine pe_go (pc := 97) rfl (s_aload rfl) ?_
      refine pe_go (pc := 99) rfl (s_iconst (z := 0) rfl) ?_
      refine pe_go (pc := 100) rfl (s_iald (n := 3) (f := row3 (T.xs p1) (T.ys p1) (T.hs p1)) (v := T.xs p1) hr1 (k := 0) (by omega) (by omega) (by decide) rfl) ?_
      refine pe_go (pc := 101) rfl (s_aload rfl) ?_
      refine pe_go (pc := 103) rfl (s_iconst (z := 0) rfl) ?_
      refine pe_go (pc := 104) rfl (s_iald (n := 3) (f := row3 (T.xs p2) (T.ys p2) (T.hs p2)) (v := T.xs p2) hr2 (k := 0) (by omega) (by omega) (by decide) rfl) ?_
      refine pe_go (pc := 105) rfl s_isub ?_
      refine pe_go (pc := 106) rfl (s_aload rfl) ?_
      refine pe_go (pc := 108) rfl (s_iconst (z := 0) rfl) ?_
      refine pe_go (pc := 109) rfl (s_iald (n := 3) (f := row3 (T.xs p1) (T.ys p1) (T.hs p1)) (v := T.xs p1) hr1 (k := 0) (by omega) (by omega) (by decide) rfl) ?_
      refine pe_go (pc := 110) rfl (s_aload rfl) ?_
      refine pe_go (pc := 112) rfl (s_iconst (z := 0) rfl) ?_
      refine pe_go (pc := 113) rfl (s_iald (n := 3) (f := row3 (T.xs p2) (T.ys p2) (T.hs p2)) (v := T.xs p2) hr2 (k := 0) (by omega) (by omega) (by decide) rfl) ?_
      refine pe_go (pc := 114) rfl s_isub ?_
      refine pe_go (pc := 115) rfl s_imul ?_
      refine pe_go (pc := 116) rfl (s_aload rfl) ?_
      refine pe_go (pc := 118) rfl (s_iconst (z := 1) rfl) ?_
      refine pe_go (pc := 119) rfl (s_iald (n := 3) (f := row3 (T.xs p1) (T.ys p1) (T.hs p1)) (v := T.ys p1) hr1 (k := 1) (by omega) (by omega) (by decide) rfl) ?_
      refine pe_go (pc := 120) rfl (s_aload rfl) ?_
      refine pe_go (pc := 122) rfl (s_iconst (z := 1) rfl) ?_
      refine pe_go (pc := 123) rfl (s_iald (n := 3) (f := row3 (T.xs p2) (T.ys p2) (T.hs p2)) (v := T.ys p2) hr2 (k := 1) (by omega) (by omega) (by decide) rfl) ?_
      refine pe_go (pc := 124) rfl s_isub ?_
      refine pe_go (pc := 125) rfl (s_aload rfl) ?_
      refine pe_go (pc := 127) rfl (s_iconst (z := 1) rfl) ?_
      refine pe_go (pc := 128) rfl (s_iald (n := 3) (f := row3 (T.xs p1) (T.ys p1) (T.hs p1)) (v := T.ys p1) hr1 (k := 1) (by omega) (by omega) (by decide) rfl) ?_
      refine pe_go (pc := 129) rfl (s_aload rfl) ?_
      refine pe_go (pc := 131) rfl (s_iconst (z := 1) rfl) ?_
      refine pe_go (pc := 132) rfl (s_iald (n := 3) (f := row3 (T.xs p2) (T.ys p2) (T.hs p2)) (v := T.ys p2) hr2 (k := 1) (by omega) (by omega) (by decide) rfl) ?_
      refine pe_go (pc := 133) rfl s_isub ?_
      refine pe_go (pc := 134) rfl s_imul ?_
      refine pe_go (pc := 135) rfl s_iadd ?_
      show qE 156 (136, _, [.int (iI (T.sq p1 p2))], w) Φ
      rw [g1]
      refine pe_go (pc := 136) rfl (s_i2l ⟨by omega, by omega⟩) ?_
      refine pe_go (pc := 137) rfl (s_lstore (lv' := [(19, .long (lI d1)), (18, .ref r2), (17, .ref r1), (16, .int (iI 1)), (13, .long (lI d0)), (15, .int (iI 0)), (12, .int (iI (i : Int))), (11, .int (iI at9)), (9, .long (lI be)), (7, .long (lI up)), (6, .int (iI bst)), (5, .int (iI (k : Int))), (4, .int (iI (c : Int))), (3, .ref t), (0, .ref b), (1, .ref a), (2, .int (iI (many : Int)))]) rfl) ?_
      refine pe_go (pc := 139) rfl (s_lload rfl) ?_
      refine pe_go (pc := 141) rfl (s_lload rfl) ?_
      refine pe_go rfl (s_lcmp_lt ⟨by omega, by omega⟩ ⟨by omega, by omega⟩ c1) ?_
      refine pe_go rfl (s_if_le_t ⟨by decide, by decide⟩ (by decide)) ?_
      refine pe_go (pc := 152) rfl (s_iload rfl) ?_
      refine pe_go (pc := 154) rfl (s_istore (lv' := [(15, .int (iI 0)), (19, .long (lI d1)), (18, .ref r2), (17, .ref r1), (16, .int (iI 1)), (13, .long (lI d0)), (12, .int (iI (i : Int))), (11, .int (iI at9)), (9, .long (lI be)), (7, .long (lI up)), (6, .int (iI bst)), (5, .int (iI (k : Int))), (4, .int (iI (c : Int))), (3, .ref t), (0, .ref b), (1, .ref a), (2, .int (iI (many : Int)))]) rfl) ?_
      refine pe_go (pc := 156) rfl (s_lload rfl) ?_
      refine pe_go (pc := 158) rfl (s_lload rfl) ?_
      refine pe_call rfl (s_invS rfl rfl rfl) (c_maxL (x := d0) (y := d1) ⟨by omega, by omega⟩ ⟨by omega, by omega⟩) ?_
      rw [zmL_ge (by omega)]
      refine pe_go (pc := 163) rfl (s_lstore (lv' := [(13, .long (lI d0)), (15, .int (iI 0)), (19, .long (lI d1)), (18, .ref r2), (17, .ref r1), (16, .int (iI 1)), (12, .int (iI (i : Int))), (11, .int (iI at9)), (9, .long (lI be)), (7, .long (lI up)), (6, .int (iI bst)), (5, .int (iI (k : Int))), (4, .int (iI (c : Int))), (3, .ref t), (0, .ref b), (1, .ref a), (2, .int (iI (many : Int)))]) rfl) ?_
      refine pe_go (pc := 165) rfl (s_iinc (x := 1) (y := 2) rfl (by omega) (lv' := [(16, .int (iI 2)), (13, .long (lI d0)), (15, .int (iI 0)), (19, .long (lI d1)), (18, .ref r2), (17, .ref r1), (12, .int (iI (i : Int))), (11, .int (iI at9)), (9, .long (lI be)), (7, .long (lI up)), (6, .int (iI bst)), (5, .int (iI (k : Int))), (4, .int (iI (c : Int))), (3, .ref t), (0, .ref b), (1, .ref a), (2, .int (iI (many : Int)))]) rfl) ?_
      refine pe_go (pc := 168) rfl s_goto ?_
      refine pe_go (pc := 57) rfl (s_iload rfl) ?_
      refine pe_go (pc := 59) rfl (s_iconst (z := 3) rfl) ?_
      refine pe_go rfl (s_icmp_ge_f ⟨by decide, by decide⟩ ⟨by decide, by decide⟩ (by decide)) ?_
      refine pe_go (pc := 63) rfl (s_aload_n rfl) ?_
      refine pe_go (pc := 64) rfl (s_getf (v := .ref pa) h0 rfl) ?_
      refine pe_go (pc := 67) rfl (s_aload_n rfl) ?_
      refine pe_go (pc := 68) rfl (s_iload rfl) ?_
      refine pe_go (pc := 70) rfl (s_iload rfl) ?_
      refine pe_call rfl (s_invV rfl (OB.obj hb hO) rfl rfl) (corner_at hb hO hN hN2 (t := i) (k := 2) hi (by decide) hc2) ?_
      refine pe_go (pc := 75) rfl (s_aald h1 (k := p2) (by omega) (by omega) er2) ?_
      refine pe_go (pc := 76) rfl (s_astore (lv' := [(17, .ref r2), (16, .int (iI 2)), (13, .long (lI d0)), (15, .int (iI 0)), (19, .long (lI d1)), (18, .ref r2), (12, .int (iI (i : Int))), (11, .int (iI at9)), (9, .long (lI be)), (7, .long (lI up)), (6, .int (iI bst)), (5, .int (iI (k : Int))), (4, .int (iI (c : Int))), (3, .ref t), (0, .ref b), (1, .ref a), (2, .int (iI (many : Int)))]) rfl) ?_
      refine pe_go (pc := 78) rfl (s_aload_n rfl) ?_
      refine pe_go (pc := 79) rfl (s_getf (v := .ref pa) h0 rfl) ?_
      refine pe_go (pc := 82) rfl (s_aload_n rfl) ?_
      refine pe_go (pc := 83) rfl (s_iload rfl) ?_
      refine pe_go (pc := 85) rfl (s_iload rfl) ?_
      refine pe_go (pc := 87) rfl (s_iconst (z := 1) rfl) ?_
      refine pe_go (q := (89, [(17, .ref r2), (16, .int (iI 2)), (13, .long (lI d0)), (15, .int (iI 0)), (19, .long (lI d1)), (18, .ref r2), (12, .int (iI (i : Int))), (11, .int (iI at9)), (9, .long (lI be)), (7, .long (lI up)), (6, .int (iI bst)), (5, .int (iI (k : Int))), (4, .int (iI (c : Int))), (3, .ref t), (0, .ref b), (1, .ref a), (2, .int (iI (many : Int)))], [.int (iI 3), .int (iI (i : Int)), .ref t, .ref pa], w)) rfl s_iadd ?_
      refine pe_go (pc := 89) rfl (s_iconst (z := 3) rfl) ?_
      refine pe_go (pc := 90) rfl (s_irem ⟨by decide, by decide⟩ ⟨by decide, by decide⟩ (by decide) (by decide) (show Int.tmod 3 3 = 0 from by decide)) ?_
      refine pe_call rfl (s_invV rfl (OB.obj hb hO) rfl rfl) (corner_at hb hO hN hN2 (t := i) (k := 0) hi (by decide) hc0) ?_
      refine pe_go (pc := 94) rfl (s_aald h1 (k := p0) (by omega) (by omega) er0) ?_
      refine pe_go (pc := 95) rfl (s_astore (lv' := [(18, .ref r0), (17, .ref r2), (16, .int (iI 2)), (13, .long (lI d0)), (15, .int (iI 0)), (19, .long (lI d1)), (12, .int (iI (i : Int))), (11, .int (iI at9)), (9, .long (lI be)), (7, .long (lI up)), (6, .int (iI bst)), (5, .int (iI (k : Int))), (4, .int (iI (c : Int))), (3, .ref t), (0, .ref b), (1, .ref a), (2, .int (iI (many : Int)))]) rfl) ?_
      refine pe_go (pc := 97) rfl (s_aload rfl) ?_
      refine pe_go (pc := 99) rfl (s_iconst (z := 0) rfl) ?_
      refine pe_go (pc := 100) rfl (s_iald (n := 3) (f := row3 (T.xs p2) (T.ys p2) (T.hs p2)) (v := T.xs p2) hr2 (k := 0) (by omega) (by omega) (by decide) rfl) ?_
      refine pe_go (pc := 101) rfl (s_aload rfl) ?_
      refine pe_go (pc := 103) rfl (s_iconst (z := 0) rfl) ?_
      refine pe_go (pc := 104) rfl (s_iald (n := 3) (f := row3 (T.xs p0) (T.ys p0) (T.hs p0)) (v := T.xs p0) hr0 (k := 0) (by omega) (by omega) (by decide) rfl) ?_
      refine pe_go (pc := 105) rfl s_isub ?_
      refine pe_go (pc := 106) rfl (s_aload rfl) ?_
      refine pe_go (pc := 108) rfl (s_iconst (z := 0) rfl) ?_
      refine pe_go (pc := 109) rfl (s_iald (n := 3) (f := row3 (T.xs p2) (T.ys p2) (T.hs p2)) (v := T.xs p2) hr2 (k := 0) (by omega) (by omega) (by decide) rfl) ?_
      refine pe_go (pc := 110) rfl (s_aload rfl) ?_
      refine pe_go (pc := 112) rfl (s_iconst (z := 0) rfl) ?_
      refine pe_go (pc := 113) rfl (s_iald (n := 3) (f := row3 (T.xs p0) (T.ys p0) (T.hs p0)) (v := T.xs p0) hr0 (k := 0) (by omega) (by omega) (by decide) rfl) ?_
      refine pe_go (pc := 114) rfl s_isub ?_
      refine pe_go (pc := 115) rfl s_imul ?_
      refine pe_go (pc := 116) rfl (s_aload rfl) ?_
      refine pe_go (pc := 118) rfl (s_iconst (z := 1) rfl) ?_
      refine pe_go (pc := 119) rfl (s_iald (n := 3) (f := row3 (T.xs p2) (T.ys p2) (T.hs p2)) (v := T.ys p2) hr2 (k := 1) (by omega) (by omega) (by decide) rfl) ?_
      refine pe_go (pc := 120) rfl (s_aload rfl) ?_
      refine pe_go (pc := 122) rfl (s_iconst (z := 1) rfl) ?_
      refine pe_go (pc := 123) rfl (s_iald (n := 3) (f := row3 (T.xs p0) (T.ys p0) (T.hs p0)) (v := T.ys p0) hr0 (k := 1) (by omega) (by omega) (by decide) rfl) ?_
      refine pe_go (pc := 124) rfl s_isub ?_
      refine pe_go (pc := 125) rfl (s_aload rfl) ?_
      refine pe_go (pc := 127) rfl (s_iconst (z := 1) rfl) ?_
      refine pe_go (pc := 128) rfl (s_iald (n := 3) (f := row3 (T.xs p2) (T.ys p2) (T.hs p2)) (v := T.ys p2) hr2 (k := 1) (by omega) (by omega) (by decide) rfl) ?_
      refine pe_go (pc := 129) rfl (s_aload rfl) ?_
      refine pe_go (pc := 131) rfl (s_iconst (z := 1) rfl) ?_
      refine pe_go (pc := 132) rfl (s_iald (n := 3) (f := row3 (T.xs p0) (T.ys p0) (T.hs p0)) (v := T.ys p0) hr0 (k := 1) (by omega) (by omega) (by decide) rfl) ?_
      refine pe_go (pc := 133) rfl s_isub ?_
      refine pe_go (pc := 134) rfl s_imul ?_
      refine pe_go (pc := 135) rfl s_iadd ?_
      show qE 156 (136, _, [.int (iI (T.sq p2 p0))], w) Φ
      rw [g2]
      refine pe_go (pc := 136) rfl (s_i2l ⟨by omega, by omega⟩) ?_
      refine pe_go (pc := 137) rfl (s_lstore (lv' := [(19, .long (lI d2)), (18, .ref r0), (17, .ref r2), (16, .int (iI 2)), (13, .long (lI d0)), (15, .int (iI 0)), (12, .int (iI (i : Int))), (11, .int (iI at9)), (9, .long (lI be)), (7, .long (lI up)), (6, .int (iI bst)), (5, .int (iI (k : Int))), (4, .int (iI (c : Int))), (3, .ref t), (0, .ref b), (1, .ref a), (2, .int (iI (many : Int)))]) rfl) ?_
      refine pe_go (pc := 139) rfl (s_lload rfl) ?_
      refine pe_go (pc := 141) rfl (s_lload rfl) ?_
      refine pe_go rfl (s_lcmp_lt ⟨by omega, by omega⟩ ⟨by omega, by omega⟩ c2) ?_
      refine pe_go rfl (s_if_le_t ⟨by decide, by decide⟩ (by decide)) ?_
      refine pe_go (pc := 152) rfl (s_iload rfl) ?_
      refine pe_go (pc := 154) rfl (s_istore (lv' := [(15, .int (iI 0)), (19, .long (lI d2)), (18, .ref r0), (17, .ref r2), (16, .int (iI 2)), (13, .long (lI d0)), (12, .int (iI (i : Int))), (11, .int (iI at9)), (9, .long (lI be)), (7, .long (lI up)), (6, .int (iI bst)), (5, .int (iI (k : Int))), (4, .int (iI (c : Int))), (3, .ref t), (0, .ref b), (1, .ref a), (2, .int (iI (many : Int)))]) rfl) ?_
      refine pe_go (pc := 156) rfl (s_lload rfl) ?_
      refine pe_go (pc := 158) rfl (s_lload rfl) ?_
      refine pe_call rfl (s_invS rfl rfl rfl) (c_maxL (x := d0) (y := d2) ⟨by omega, by omega⟩ ⟨by omega, by omega⟩) ?_
      rw [zmL_ge (by omega)]
      refine pe_go (pc := 163) rfl (s_lstore (lv' := [(13, .long (lI d0)), (15, .int (iI 0)), (19, .long (lI d2)), (18, .ref r0), (17, .ref r2), (16, .int (iI 2)), (12, .int (iI (i : Int))), (11, .int (iI at9)), (9, .long (lI be)), (7, .long (lI up)), (6, .int (iI bst)), (5, .int (iI (k : Int))), (4, .int (iI (c : Int))), (3, .ref t), (0, .ref b), (1, .ref a), (2, .int (iI (many : Int)))]) rfl) ?_
      refine pe_go (pc := 165) rfl (s_iinc (x := 2) (y := 3) rfl (by omega) (lv' := [(16, .int (iI 3)), (13, .long (lI d0)), (15, .int (iI 0)), (19, .long (lI d2)), (18, .ref r0), (17, .ref r2), (12, .int (iI (i : Int))), (11, .int (iI at9)), (9, .long (lI be)), (7, .long (lI up)), (6, .int (iI bst)), (5, .int (iI (k : Int))), (4, .int (iI (c : Int))), (3, .ref t), (0, .ref b), (1, .ref a), (2, .int (iI (many : Int)))]) rfl) ?_
      refine pe_go (pc := 168) rfl s_goto ?_
      refine pe_go (pc := 57) rfl (s_iload rfl) ?_
      refine pe_go (pc := 59) rfl (s_iconst (z := 3) rfl) ?_
      refine pe_go rfl (s_icmp_ge_t ⟨by decide, by decide⟩ ⟨by decide, by decide⟩ (by decide)) ?_
      refine pe_few (lv := [(15, .int (iI ((0 : Nat) : Int))), (13, .long (lI d0)), (12, .int (iI (i : Int))), (11, .int (iI at9)), (9, .long (lI be)), (7, .long (lI up)), (6, .int (iI bst)), (5, .int (iI (k : Int))), (4, .int (iI (c : Int))), (3, .ref t), (0, .ref b), (1, .ref a), (2, .int (iI (many : Int)))]) rfl rfl (by intro q hq; simp only [List.mem_cons, List.not_mem_nil, or_false] at hq; rcases hq with rfl | rfl | rfl | rfl | rfl | rfl | rfl | rfl | rfl | rfl | rfl | rfl | rfl <;> rfl) ?_
      exact KK d0 0 (by show _ = T.qs i (T.lgs i); rw [hlg]; (repeat' split) <;> first | omega | (first | rw [hq0] | rw [hq1] | rw [hq2]) <;> omega) (by rw [hlg]; (repeat' split) <;> omega)
    · skip
      refine pe_go (pc := 48) rfl s_lconst0 ?_
      refine pe_go (pc := 49) rfl (s_lstore (lv' := [(13, .long (lI 0)), (12, .int (iI (i : Int))), (11, .int (iI at9)), (9, .long (lI be)), (7, .long (lI up)), (6, .int (iI bst)), (5, .int (iI (k : Int))), (4, .int (iI (c : Int))), (3, .ref t), (0, .ref b), (1, .ref a), (2, .int (iI (many : Int)))]) rfl) ?_
      refine pe_go (pc := 51) rfl (s_iconst (z := 0) rfl) ?_
      refine pe_go (pc := 52) rfl (s_istore (lv' := [(15, .int (iI 0)), (13, .long (lI 0)), (12, .int (iI (i : Int))), (11, .int (iI at9)), (9, .long (lI be)), (7, .long (lI up)), (6, .int (iI bst)), (5, .int (iI (k : Int))), (4, .int (iI (c : Int))), (3, .ref t), (0, .ref b), (1, .ref a), (2, .int (iI (many : Int)))]) rfl) ?_
      refine pe_go (pc := 54) rfl (s_iconst (z := 0) rfl) ?_
      refine pe_go (pc := 55) rfl (s_istore (lv' := [(16, .int (iI 0)), (15, .int (iI 0)), (13, .long (lI 0)), (12, .int (iI (i : Int))), (11, .int (iI at9)), (9, .long (lI be)), (7, .long (lI up)), (6, .int (iI bst)), (5, .int (iI (k : Int))), (4, .int (iI (c : Int))), (3, .ref t), (0, .ref b), (1, .ref a), (2, .int (iI (many : Int)))]) rfl) ?_
      refine pe_go (pc := 57) rfl (s_iload rfl) ?_
      refine pe_go (pc := 59) rfl (s_iconst (z := 3) rfl) ?_
      refine pe_go rfl (s_icmp_ge_f ⟨by decide, by decide⟩ ⟨by decide, by decide⟩ (by decide)) ?_
      refine pe_go (pc := 63) rfl (s_aload_n rfl) ?_
      refine pe_go (pc := 64) rfl (s_getf (v := .ref pa) h0 rfl) ?_
      refine pe_go (pc := 67) rfl (s_aload_n rfl) ?_
      refine pe_go (pc := 68) rfl (s_iload rfl) ?_
      refine pe_go (pc := 70) rfl (s_iload rfl) ?_
      refine pe_call rfl (s_invV rfl (OB.obj hb hO) rfl rfl) (corner_at hb hO hN hN2 (t := i) (k := 0) hi (by decide) hc0) ?_
      refine pe_go (pc := 75) rfl (s_aald h1 (k := p0) (by omega) (by omega) er0) ?_
      refine pe_go (pc := 76) rfl (s_astore (lv' := [(17, .ref r0), (16, .int (iI 0)), (15, .int (iI 0)), (13, .long (lI 0)), (12, .int (iI (i : Int))), (11, .int (iI at9)), (9, .long (lI be)), (7, .long (lI up)), (6, .int (iI bst)), (5, .int (iI (k : Int))), (4, .int (iI (c : Int))), (3, .ref t), (0, .ref b), (1, .ref a), (2, .int (iI (many : Int)))]) rfl) ?_
      refine pe_go (pc := 78) rfl (s_aload_n rfl) ?_
      refine pe_go (pc := 79) rfl (s_getf (v := .ref pa) h0 rfl) ?_
      refine pe_go (pc := 82) rfl (s_aload_n rfl) ?_
      refine pe_go (pc := 83) rfl (s_iload rfl) ?_
      refine pe_go (pc := 85) rfl (s_iload rfl) ?_
      refine pe_go (pc := 87) rfl (s_iconst (z := 1) rfl) ?_
      refine pe_go (q := (89, [(17, .ref r0), (16, .int (iI 0)), (15, .int (iI 0)), (13, .long (lI 0)), (12, .int (iI (i : Int))), (11, .int (iI at9)), (9, .long (lI be)), (7, .long (lI up)), (6, .int (iI bst)), (5, .int (iI (k : Int))), (4, .int (iI (c : Int))), (3, .ref t), (0, .ref b), (1, .ref a), (2, .int (iI (many : Int)))], [.int (iI 1), .int (iI (i : Int)), .ref t, .ref pa], w)) rfl s_iadd ?_
      refine pe_go (pc := 89) rfl (s_iconst (z := 3) rfl) ?_
      refine pe_go (pc := 90) rfl (s_irem ⟨by decide, by decide⟩ ⟨by decide, by decide⟩ (by decide) (by decide) (show Int.tmod 1 3 = 1 from by decide)) ?_
      refine pe_call rfl (s_invV rfl (OB.obj hb hO) rfl rfl) (corner_at hb hO hN hN2 (t := i) (k := 1) hi (by decide) hc1) ?_
      refine pe_go (pc := 94) rfl (s_aald h1 (k := p1) (by omega) (by omega) er1) ?_
      refine pe_go (pc := 95) rfl (s_astore (lv' := [(18, .ref r1), (17, .ref r0), (16, .int (iI 0)), (15, .int (iI 0)), (13, .long (lI 0)), (12, .int (iI (i : Int))), (11, .int (iI at9)), (9, .long (lI be)), (7, .long (lI up)), (6, .int (iI bst)), (5, .int (iI (k : Int))), (4, .int (iI (c : Int))), (3, .ref t), (0, .ref b), (1, .ref a), (2, .int (iI (many : Int)))]) rfl) ?_
      refine pe_go (pc := 97) rfl (s_aload rfl) ?_
      refine pe_go (pc := 99) rfl (s_iconst (z := 0) rfl) ?_
      refine pe_go (pc := 100) rfl (s_iald (n := 3) (f := row3 (T.xs p0) (T.ys p0) (T.hs p0)) (v := T.xs p0) hr0 (k := 0) (by omega) (by omega) (by decide) rfl) ?_
      refine pe_go (pc := 101) rfl (s_aload rfl) ?_
      refine pe_go (pc := 103) rfl (s_iconst (z := 0) rfl) ?_
      refine pe_go (pc := 104) rfl (s_iald (n := 3) (f := row3 (T.xs p1) (T.ys p1) (T.hs p1)) (v := T.xs p1) hr1 (k := 0) (by omega) (by omega) (by decide) rfl) ?_
      refine pe_go (pc := 105) rfl s_isub ?_
      refine pe_go (pc := 106) rfl (s_aload rfl) ?_
      refine pe_go (pc := 108) rfl (s_iconst (z := 0) rfl) ?_
      refine pe_go (pc := 109) rfl (s_iald (n := 3) (f := row3 (T.xs p0) (T.ys p0) (T.hs p0)) (v := T.xs p0) hr0 (k := 0) (by omega) (by omega) (by decide) rfl) ?_
      refine pe_go (pc := 110) rfl (s_aload rfl) ?_
      refine pe_go (pc := 112) rfl (s_iconst (z := 0) rfl) ?_
      refine pe_go (pc := 113) rfl (s_iald (n := 3) (f := row3 (T.xs p1) (T.ys p1) (T.hs p1)) (v := T.xs p1) hr1 (k := 0) (by omega) (by omega) (by decide) rfl) ?_
      refine pe_go (pc := 114) rfl s_isub ?_
      refine pe_go (pc := 115) rfl s_imul ?_
      refine pe_go (pc := 116) rfl (s_aload rfl) ?_
      refine pe_go (pc := 118) rfl (s_iconst (z := 1) rfl) ?_
      refine pe_go (pc := 119) rfl (s_iald (n := 3) (f := row3 (T.xs p0) (T.ys p0) (T.hs p0)) (v := T.ys p0) hr0 (k := 1) (by omega) (by omega) (by decide) rfl) ?_
      refine pe_go (pc := 120) rfl (s_aload rfl) ?_
      refine pe_go (pc := 122) rfl (s_iconst (z := 1) rfl) ?_
      refine pe_go (pc := 123) rfl (s_iald (n := 3) (f := row3 (T.xs p1) (T.ys p1) (T.hs p1)) (v := T.ys p1) hr1 (k := 1) (by omega) (by omega) (by decide) rfl) ?_
      refine pe_go (pc := 124) rfl s_isub ?_
      refine pe_go (pc := 125) rfl (s_aload rfl) ?_
      refine pe_go (pc := 127) rfl (s_iconst (z := 1) rfl) ?_
      refine pe_go (pc := 128) rfl (s_iald (n := 3) (f := row3 (T.xs p0) (T.ys p0) (T.hs p0)) (v := T.ys p0) hr0 (k := 1) (by omega) (by omega) (by decide) rfl) ?_
      refine pe_go (pc := 129) rfl (s_aload rfl) ?_
      refine pe_go (pc := 131) rfl (s_iconst (z := 1) rfl) ?_
      refine pe_go (pc := 132) rfl (s_iald (n := 3) (f := row3 (T.xs p1) (T.ys p1) (T.hs p1)) (v := T.ys p1) hr1 (k := 1) (by omega) (by omega) (by decide) rfl) ?_
      refine pe_go (pc := 133) rfl s_isub ?_
      refine pe_go (pc := 134) rfl s_imul ?_
      refine pe_go (pc := 135) rfl s_iadd ?_
      show qE 156 (136, _, [.int (iI (T.sq p0 p1))], w) Φ
      rw [g0]
      refine pe_go (pc := 136) rfl (s_i2l ⟨by omega, by omega⟩) ?_
      refine pe_go (pc := 137) rfl (s_lstore (lv' := [(19, .long (lI d0)), (18, .ref r1), (17, .ref r0), (16, .int (iI 0)), (15, .int (iI 0)), (13, .long (lI 0)), (12, .int (iI (i : Int))), (11, .int (iI at9)), (9, .long (lI be)), (7, .long (lI up)), (6, .int (iI bst)), (5, .int (iI (k : Int))), (4, .int (iI (c : Int))), (3, .ref t), (0, .ref b), (1, .ref a), (2, .int (iI (many : Int)))]) rfl) ?_
      refine pe_go (pc := 139) rfl (s_lload rfl) ?_
      refine pe_go (pc := 141) rfl (s_lload rfl) ?_
      refine pe_go rfl (s_lcmp_gt ⟨by omega, by omega⟩ ⟨by omega, by omega⟩ (by omega)) ?_
      refine pe_go rfl (s_if_le_f ⟨by decide, by decide⟩ (by decide)) ?_
      refine pe_go (pc := 147) rfl (s_iload rfl) ?_
      refine pe_go (pc := 149) rfl s_goto ?_
      refine pe_go (pc := 154) rfl (s_istore (lv' := [(15, .int (iI 0)), (19, .long (lI d0)), (18, .ref r1), (17, .ref r0), (16, .int (iI 0)), (13, .long (lI 0)), (12, .int (iI (i : Int))), (11, .int (iI at9)), (9, .long (lI be)), (7, .long (lI up)), (6, .int (iI bst)), (5, .int (iI (k : Int))), (4, .int (iI (c : Int))), (3, .ref t), (0, .ref b), (1, .ref a), (2, .int (iI (many : Int)))]) rfl) ?_
      refine pe_go (pc := 156) rfl (s_lload rfl) ?_
      refine pe_go (pc := 158) rfl (s_lload rfl) ?_
      refine pe_call rfl (s_invS rfl rfl rfl) (c_maxL (x := 0) (y := d0) ⟨by omega, by omega⟩ ⟨by omega, by omega⟩) ?_
      rw [zmL_lt (by omega)]
      refine pe_go (pc := 163) rfl (s_lstore (lv' := [(13, .long (lI d0)), (15, .int (iI 0)), (19, .long (lI d0)), (18, .ref r1), (17, .ref r0), (16, .int (iI 0)), (12, .int (iI (i : Int))), (11, .int (iI at9)), (9, .long (lI be)), (7, .long (lI up)), (6, .int (iI bst)), (5, .int (iI (k : Int))), (4, .int (iI (c : Int))), (3, .ref t), (0, .ref b), (1, .ref a), (2, .int (iI (many : Int)))]) rfl) ?_
      refine pe_go (pc := 165) rfl (s_iinc (x := 0) (y := 1) rfl (by omega) (lv' := [(16, .int (iI 1)), (13, .long (lI d0)), (15, .int (iI 0)), (19, .long (lI d0)), (18, .ref r1), (17, .ref r0), (12, .int (iI (i : Int))), (11, .int (iI at9)), (9, .long (lI be)), (7, .long (lI up)), (6, .int (iI bst)), (5, .int (iI (k : Int))), (4, .int (iI (c : Int))), (3, .ref t), (0, .ref b), (1, .ref a), (2, .int (iI (many : Int)))]) rfl) ?_
      refine pe_go (pc := 168) rfl s_goto ?_
      refine pe_go (pc := 57) rfl (s_iload rfl) ?_
      refine pe_go (pc := 59) rfl (s_iconst (z := 3) rfl) ?_
      refine pe_go rfl (s_icmp_ge_f ⟨by decide, by decide⟩ ⟨by decide, by decide⟩ (by decide)) ?_
      refine pe_go (pc := 63) rfl (s_aload_n rfl) ?_
      refine pe_go (pc := 64) rfl (s_getf (v := .ref pa) h0 rfl) ?_
      refine pe_go (pc := 67) rfl (s_aload_n rfl) ?_
      refine pe_go (pc := 68) rfl (s_iload rfl) ?_
      refine pe_go (pc := 70) rfl (s_iload rfl) ?_
      refine pe_call rfl (s_invV rfl (OB.obj hb hO) rfl rfl) (corner_at hb hO hN hN2 (t := i) (k := 1) hi (by decide) hc1) ?_
      refine pe_go (pc := 75) rfl (s_aald h1 (k := p1) (by omega) (by omega) er1) ?_
      refine pe_go (pc := 76) rfl (s_astore (lv' := [(17, .ref r1), (16, .int (iI 1)), (13, .long (lI d0)), (15, .int (iI 0)), (19, .long (lI d0)), (18, .ref r1), (12, .int (iI (i : Int))), (11, .int (iI at9)), (9, .long (lI be)), (7, .long (lI up)), (6, .int (iI bst)), (5, .int (iI (k : Int))), (4, .int (iI (c : Int))), (3, .ref t), (0, .ref b), (1, .ref a), (2, .int (iI (many : Int)))]) rfl) ?_
      refine pe_go (pc := 78) rfl (s_aload_n rfl) ?_
      refine pe_go (pc := 79) rfl (s_getf (v := .ref pa) h0 rfl) ?_
      refine pe_go (pc := 82) rfl (s_aload_n rfl) ?_
      refine pe_go (pc := 83) rfl (s_iload rfl) ?_
      refine pe_go (pc := 85) rfl (s_iload rfl) ?_
      refine pe_go (pc := 87) rfl (s_iconst (z := 1) rfl) ?_
      refine pe_go (q := (89, [(17, .ref r1), (16, .int (iI 1)), (13, .long (lI d0)), (15, .int (iI 0)), (19, .long (lI d0)), (18, .ref r1), (12, .int (iI (i : Int))), (11, .int (iI at9)), (9, .long (lI be)), (7, .long (lI up)), (6, .int (iI bst)), (5, .int (iI (k : Int))), (4, .int (iI (c : Int))), (3, .ref t), (0, .ref b), (1, .ref a), (2, .int (iI (many : Int)))], [.int (iI 2), .int (iI (i : Int)), .ref t, .ref pa], w)) rfl s_iadd ?_
      refine pe_go (pc := 89) rfl (s_iconst (z := 3) rfl) ?_
      refine pe_go (pc := 90) rfl (s_irem ⟨by decide, by decide⟩ ⟨by decide, by decide⟩ (by decide) (by decide) (show Int.tmod 2 3 = 2 from by decide)) ?_
      refine pe_call rfl (s_invV rfl (OB.obj hb hO) rfl rfl) (corner_at hb hO hN hN2 (t := i) (k := 2) hi (by decide) hc2) ?_
      refine pe_go (pc := 94) rfl (s_aald h1 (k := p2) (by omega) (by omega) er2) ?_
      refine pe_go (pc := 95) rfl (s_astore (lv' := [(18, .ref r2), (17, .ref r1), (16, .int (iI 1)), (13, .long (lI d0)), (15, .int (iI 0)), (19, .long (lI d0)), (12, .int (iI (i : Int))), (11, .int (iI at9)), (9, .long (lI be)), (7, .long (lI up)), (6, .int (iI bst)), (5, .int (iI (k : Int))), (4, .int (iI (c : Int))), (3, .ref t), (0, .ref b), (1, .ref a), (2, .int (iI (many : Int)))]) rfl) ?_
      refine pe_go (pc := 97) rfl (s_aload rfl) ?_
      refine pe_go (pc := 99) rfl (s_iconst (z := 0) rfl) ?_
      refine pe_go (pc := 100) rfl (s_iald (n := 3) (f := row3 (T.xs p1) (T.ys p1) (T.hs p1)) (v := T.xs p1) hr1 (k := 0) (by omega) (by omega) (by decide) rfl) ?_
      refine pe_go (pc := 101) rfl (s_aload rfl) ?_
      refine pe_go (pc := 103) rfl (s_iconst (z := 0) rfl) ?_
      refine pe_go (pc := 104) rfl (s_iald (n := 3) (f := row3 (T.xs p2) (T.ys p2) (T.hs p2)) (v := T.xs p2) hr2 (k := 0) (by omega) (by omega) (by decide) rfl) ?_
      refine pe_go (pc := 105) rfl s_isub ?_
      refine pe_go (pc := 106) rfl (s_aload rfl) ?_
      refine pe_go (pc := 108) rfl (s_iconst (z := 0) rfl) ?_
      refine pe_go (pc := 109) rfl (s_iald (n := 3) (f := row3 (T.xs p1) (T.ys p1) (T.hs p1)) (v := T.xs p1) hr1 (k := 0) (by omega) (by omega) (by decide) rfl) ?_
      refine pe_go (pc := 110) rfl (s_aload rfl) ?_
      refine pe_go (pc := 112) rfl (s_iconst (z := 0) rfl) ?_
      refine pe_go (pc := 113) rfl (s_iald (n := 3) (f := row3 (T.xs p2) (T.ys p2) (T.hs p2)) (v := T.xs p2) hr2 (k := 0) (by omega) (by omega) (by decide) rfl) ?_
      refine pe_go (pc := 114) rfl s_isub ?_
      refine pe_go (pc := 115) rfl s_imul ?_
      refine pe_go (pc := 116) rfl (s_aload rfl) ?_
      refine pe_go (pc := 118) rfl (s_iconst (z := 1) rfl) ?_
      refine pe_go (pc := 119) rfl (s_iald (n := 3) (f := row3 (T.xs p1) (T.ys p1) (T.hs p1)) (v := T.ys p1) hr1 (k := 1) (by omega) (by omega) (by decide) rfl) ?_
      refine pe_go (pc := 120) rfl (s_aload rfl) ?_
      refine pe_go (pc := 122) rfl (s_iconst (z := 1) rfl) ?_
      refine pe_go (pc := 123) rfl (s_iald (n := 3) (f := row3 (T.xs p2) (T.ys p2) (T.hs p2)) (v := T.ys p2) hr2 (k := 1) (by omega) (by omega) (by decide) rfl) ?_
      refine pe_go (pc := 124) rfl s_isub ?_
      refine pe_go (pc := 125) rfl (s_aload rfl) ?_
      refine pe_go (pc := 127) rfl (s_iconst (z := 1) rfl) ?_
      refine pe_go (pc := 128) rfl (s_iald (n := 3) (f := row3 (T.xs p1) (T.ys p1) (T.hs p1)) (v := T.ys p1) hr1 (k := 1) (by omega) (by omega) (by decide) rfl) ?_
      refine pe_go (pc := 129) rfl (s_aload rfl) ?_
      refine pe_go (pc := 131) rfl (s_iconst (z := 1) rfl) ?_
      refine pe_go (pc := 132) rfl (s_iald (n := 3) (f := row3 (T.xs p2) (T.ys p2) (T.hs p2)) (v := T.ys p2) hr2 (k := 1) (by omega) (by omega) (by decide) rfl) ?_
      refine pe_go (pc := 133) rfl s_isub ?_
      refine pe_go (pc := 134) rfl s_imul ?_
      refine pe_go (pc := 135) rfl s_iadd ?_
      show qE 156 (136, _, [.int (iI (T.sq p1 p2))], w) Φ
      rw [g1]
      refine pe_go (pc := 136) rfl (s_i2l ⟨by omega, by omega⟩) ?_
      refine pe_go (pc := 137) rfl (s_lstore (lv' := [(19, .long (lI d1)), (18, .ref r2), (17, .ref r1), (16, .int (iI 1)), (13, .long (lI d0)), (15, .int (iI 0)), (12, .int (iI (i : Int))), (11, .int (iI at9)), (9, .long (lI be)), (7, .long (lI up)), (6, .int (iI bst)), (5, .int (iI (k : Int))), (4, .int (iI (c : Int))), (3, .ref t), (0, .ref b), (1, .ref a), (2, .int (iI (many : Int)))]) rfl) ?_
      refine pe_go (pc := 139) rfl (s_lload rfl) ?_
      refine pe_go (pc := 141) rfl (s_lload rfl) ?_
      refine pe_go rfl (s_lcmp_lt ⟨by omega, by omega⟩ ⟨by omega, by omega⟩ c1) ?_
      refine pe_go rfl (s_if_le_t ⟨by decide, by decide⟩ (by decide)) ?_
      refine pe_go (pc := 152) rfl (s_iload rfl) ?_
      refine pe_go (pc := 154) rfl (s_istore (lv' := [(15, .int (iI 0)), (19, .long (lI d1)), (18, .ref r2), (17, .ref r1), (16, .int (iI 1)), (13, .long (lI d0)), (12, .int (iI (i : Int))), (11, .int (iI at9)), (9, .long (lI be)), (7, .long (lI up)), (6, .int (iI bst)), (5, .int (iI (k : Int))), (4, .int (iI (c : Int))), (3, .ref t), (0, .ref b), (1, .ref a), (2, .int (iI (many : Int)))]) rfl) ?_
      refine pe_go (pc := 156) rfl (s_lload rfl) ?_
      refine pe_go (pc := 158) rfl (s_lload rfl) ?_
      refine pe_call rfl (s_invS rfl rfl rfl) (c_maxL (x := d0) (y := d1) ⟨by omega, by omega⟩ ⟨by omega, by omega⟩) ?_
      rw [zmL_ge (by omega)]
      refine pe_go (pc := 163) rfl (s_lstore (lv' := [(13, .long (lI d0)), (15, .int (iI 0)), (19, .long (lI d1)), (18, .ref r2), (17, .ref r1), (16, .int (iI 1)), (12, .int (iI (i : Int))), (11, .int (iI at9)), (9, .long (lI be)), (7, .long (lI up)), (6, .int (iI bst)), (5, .int (iI (k : Int))), (4, .int (iI (c : Int))), (3, .ref t), (0, .ref b), (1, .ref a), (2, .int (iI (many : Int)))]) rfl) ?_
      refine pe_go (pc := 165) rfl (s_iinc (x := 1) (y := 2) rfl (by omega) (lv' := [(16, .int (iI 2)), (13, .long (lI d0)), (15, .int (iI 0)), (19, .long (lI d1)), (18, .ref r2), (17, .ref r1), (12, .int (iI (i : Int))), (11, .int (iI at9)), (9, .long (lI be)), (7, .long (lI up)), (6, .int (iI bst)), (5, .int (iI (k : Int))), (4, .int (iI (c : Int))), (3, .ref t), (0, .ref b), (1, .ref a), (2, .int (iI (many : Int)))]) rfl) ?_
      refine pe_go (pc := 168) rfl s_goto ?_
      refine pe_go (pc := 57) rfl (s_iload rfl) ?_
      refine pe_go (pc := 59) rfl (s_iconst (z := 3) rfl) ?_
      refine pe_go rfl (s_icmp_ge_f ⟨by decide, by decide⟩ ⟨by decide, by decide⟩ (by decide)) ?_
      refine pe_go (pc := 63) rfl (s_aload_n rfl) ?_
      refine pe_go (pc := 64) rfl (s_getf (v := .ref pa) h0 rfl) ?_
      refine pe_go (pc := 67) rfl (s_aload_n rfl) ?_
      refine pe_go (pc := 68) rfl (s_iload rfl) ?_
      refine pe_go (pc := 70) rfl (s_iload rfl) ?_
      refine pe_call rfl (s_invV rfl (OB.obj hb hO) rfl rfl) (corner_at hb hO hN hN2 (t := i) (k := 2) hi (by decide) hc2) ?_
      refine pe_go (pc := 75) rfl (s_aald h1 (k := p2) (by omega) (by omega) er2) ?_
      refine pe_go (pc := 76) rfl (s_astore (lv' := [(17, .ref r2), (16, .int (iI 2)), (13, .long (lI d0)), (15, .int (iI 0)), (19, .long (lI d1)), (18, .ref r2), (12, .int (iI (i : Int))), (11, .int (iI at9)), (9, .long (lI be)), (7, .long (lI up)), (6, .int (iI bst)), (5, .int (iI (k : Int))), (4, .int (iI (c : Int))), (3, .ref t), (0, .ref b), (1, .ref a), (2, .int (iI (many : Int)))]) rfl) ?_
      refine pe_go (pc := 78) rfl (s_aload_n rfl) ?_
      refine pe_go (pc := 79) rfl (s_getf (v := .ref pa) h0 rfl) ?_
      refine pe_go (pc := 82) rfl (s_aload_n rfl) ?_
      refine pe_go (pc := 83) rfl (s_iload rfl) ?_
      refine pe_go (pc := 85) rfl (s_iload rfl) ?_
      refine pe_go (pc := 87) rfl (s_iconst (z := 1) rfl) ?_
      refine pe_go (q := (89, [(17, .ref r2), (16, .int (iI 2)), (13, .long (lI d0)), (15, .int (iI 0)), (19, .long (lI d1)), (18, .ref r2), (12, .int (iI (i : Int))), (11, .int (iI at9)), (9, .long (lI be)), (7, .long (lI up)), (6, .int (iI bst)), (5, .int (iI (k : Int))), (4, .int (iI (c : Int))), (3, .ref t), (0, .ref b), (1, .ref a), (2, .int (iI (many : Int)))], [.int (iI 3), .int (iI (i : Int)), .ref t, .ref pa], w)) rfl s_iadd ?_
      refine pe_go (pc := 89) rfl (s_iconst (z := 3) rfl) ?_
      refine pe_go (pc := 90) rfl (s_irem ⟨by decide, by decide⟩ ⟨by decide, by decide⟩ (by decide) (by decide) (show Int.tmod 3 3 = 0 from by decide)) ?_
      refine pe_call rfl (s_invV rfl (OB.obj hb hO) rfl rfl) (corner_at hb hO hN hN2 (t := i) (k := 0) hi (by decide) hc0) ?_
      refine pe_go (pc := 94) rfl (s_aald h1 (k := p0) (by omega) (by omega) er0) ?_
      refine pe_go (pc := 95) rfl (s_astore (lv' := [(18, .ref r0), (17, .ref r2), (16, .int (iI 2)), (13, .long (lI d0)), (15, .int (iI 0)), (19, .long (lI d1)), (12, .int (iI (i : Int))), (11, .int (iI at9)), (9, .long (lI be)), (7, .long (lI up)), (6, .int (iI bst)), (5, .int (iI (k : Int))), (4, .int (iI (c : Int))), (3, .ref t), (0, .ref b), (1, .ref a), (2, .int (iI (many : Int)))]) rfl) ?_
      refine pe_go (pc := 97) rfl (s_aload rfl) ?_
      refine pe_go (pc := 99) rfl (s_iconst (z := 0) rfl) ?_
      refine pe_go (pc := 100) rfl (s_iald (n := 3) (f := row3 (T.xs p2) (T.ys p2) (T.hs p2)) (v := T.xs p2) hr2 (k := 0) (by omega) (by omega) (by decide) rfl) ?_
      refine pe_go (pc := 101) rfl (s_aload rfl) ?_
      refine pe_go (pc := 103) rfl (s_iconst (z := 0) rfl) ?_
      refine pe_go (pc := 104) rfl (s_iald (n := 3) (f := row3 (T.xs p0) (T.ys p0) (T.hs p0)) (v := T.xs p0) hr0 (k := 0) (by omega) (by omega) (by decide) rfl) ?_
      refine pe_go (pc := 105) rfl s_isub ?_
      refine pe_go (pc := 106) rfl (s_aload rfl) ?_
      refine pe_go (pc := 108) rfl (s_iconst (z := 0) rfl) ?_
      refine pe_go (pc := 109) rfl (s_iald (n := 3) (f := row3 (T.xs p2) (T.ys p2) (T.hs p2)) (v := T.xs p2) hr2 (k := 0) (by omega) (by omega) (by decide) rfl) ?_
      refine pe_go (pc := 110) rfl (s_aload rfl) ?_
      refine pe_go (pc := 112) rfl (s_iconst (z := 0) rfl) ?_
      refine pe_go (pc := 113) rfl (s_iald (n := 3) (f := row3 (T.xs p0) (T.ys p0) (T.hs p0)) (v := T.xs p0) hr0 (k := 0) (by omega) (by omega) (by decide) rfl) ?_
      refine pe_go (pc := 114) rfl s_isub ?_
      refine pe_go (pc := 115) rfl s_imul ?_
      refine pe_go (pc := 116) rfl (s_aload rfl) ?_
      refine pe_go (pc := 118) rfl (s_iconst (z := 1) rfl) ?_
      refine pe_go (pc := 119) rfl (s_iald (n := 3) (f := row3 (T.xs p2) (T.ys p2) (T.hs p2)) (v := T.ys p2) hr2 (k := 1) (by omega) (by omega) (by decide) rfl) ?_
      refine pe_go (pc := 120) rfl (s_aload rfl) ?_
      refine pe_go (pc := 122) rfl (s_iconst (z := 1) rfl) ?_
      refine pe_go (pc := 123) rfl (s_iald (n := 3) (f := row3 (T.xs p0) (T.ys p0) (T.hs p0)) (v := T.ys p0) hr0 (k := 1) (by omega) (by omega) (by decide) rfl) ?_
      refine pe_go (pc := 124) rfl s_isub ?_
      refine pe_go (pc := 125) rfl (s_aload rfl) ?_
      refine pe_go (pc := 127) rfl (s_iconst (z := 1) rfl) ?_
      refine pe_go (pc := 128) rfl (s_iald (n := 3) (f := row3 (T.xs p2) (T.ys p2) (T.hs p2)) (v := T.ys p2) hr2 (k := 1) (by omega) (by omega) (by decide) rfl) ?_
      refine pe_go (pc := 129) rfl (s_aload rfl) ?_
      refine pe_go (pc := 131) rfl (s_iconst (z := 1) rfl) ?_
      refine pe_go (pc := 132) rfl (s_iald (n := 3) (f := row3 (T.xs p0) (T.ys p0) (T.hs p0)) (v := T.ys p0) hr0 (k := 1) (by omega) (by omega) (by decide) rfl) ?_
      refine pe_go (pc := 133) rfl s_isub ?_
      refine pe_go (pc := 134) rfl s_imul ?_
      refine pe_go (pc := 135) rfl s_iadd ?_
      show qE 156 (136, _, [.int (iI (T.sq p2 p0))], w) Φ
      rw [g2]
      refine pe_go (pc := 136) rfl (s_i2l ⟨by omega, by omega⟩) ?_
      refine pe_go (pc := 137) rfl (s_lstore (lv' := [(19, .long (lI d2)), (18, .ref r0), (17, .ref r2), (16, .int (iI 2)), (13, .long (lI d0)), (15, .int (iI 0)), (12, .int (iI (i : Int))), (11, .int (iI at9)), (9, .long (lI be)), (7, .long (lI up)), (6, .int (iI bst)), (5, .int (iI (k : Int))), (4, .int (iI (c : Int))), (3, .ref t), (0, .ref b), (1, .ref a), (2, .int (iI (many : Int)))]) rfl) ?_
      refine pe_go (pc := 139) rfl (s_lload rfl) ?_
      refine pe_go (pc := 141) rfl (s_lload rfl) ?_
      refine pe_go rfl (s_lcmp_eq c2) ?_
      refine pe_go rfl (s_if_le_t ⟨by decide, by decide⟩ (by decide)) ?_
      refine pe_go (pc := 152) rfl (s_iload rfl) ?_
      refine pe_go (pc := 154) rfl (s_istore (lv' := [(15, .int (iI 0)), (19, .long (lI d2)), (18, .ref r0), (17, .ref r2), (16, .int (iI 2)), (13, .long (lI d0)), (12, .int (iI (i : Int))), (11, .int (iI at9)), (9, .long (lI be)), (7, .long (lI up)), (6, .int (iI bst)), (5, .int (iI (k : Int))), (4, .int (iI (c : Int))), (3, .ref t), (0, .ref b), (1, .ref a), (2, .int (iI (many : Int)))]) rfl) ?_
      refine pe_go (pc := 156) rfl (s_lload rfl) ?_
      refine pe_go (pc := 158) rfl (s_lload rfl) ?_
      refine pe_call rfl (s_invS rfl rfl rfl) (c_maxL (x := d0) (y := d2) ⟨by omega, by omega⟩ ⟨by omega, by omega⟩) ?_
      rw [zmL_ge (by omega)]
      refine pe_go (pc := 163) rfl (s_lstore (lv' := [(13, .long (lI d0)), (15, .int (iI 0)), (19, .long (lI d2)), (18, .ref r0), (17, .ref r2), (16, .int (iI 2)), (12, .int (iI (i : Int))), (11, .int (iI at9)), (9, .long (lI be)), (7, .long (lI up)), (6, .int (iI bst)), (5, .int (iI (k : Int))), (4, .int (iI (c : Int))), (3, .ref t), (0, .ref b), (1, .ref a), (2, .int (iI (many : Int)))]) rfl) ?_
      refine pe_go (pc := 165) rfl (s_iinc (x := 2) (y := 3) rfl (by omega) (lv' := [(16, .int (iI 3)), (13, .long (lI d0)), (15, .int (iI 0)), (19, .long (lI d2)), (18, .ref r0), (17, .ref r2), (12, .int (iI (i : Int))), (11, .int (iI at9)), (9, .long (lI be)), (7, .long (lI up)), (6, .int (iI bst)), (5, .int (iI (k : Int))), (4, .int (iI (c : Int))), (3, .ref t), (0, .ref b), (1, .ref a), (2, .int (iI (many : Int)))]) rfl) ?_
      refine pe_go (pc := 168) rfl s_goto ?_
      refine pe_go (pc := 57) rfl (s_iload rfl) ?_
      refine pe_go (pc := 59) rfl (s_iconst (z := 3) rfl) ?_
      refine pe_go rfl (s_icmp_ge_t ⟨by decide, by decide⟩ ⟨by decide, by decide⟩ (by decide)) ?_
      refine pe_few (lv := [(15, .int (iI ((0 : Nat) : Int))), (13, .long (lI d0)), (12, .int (iI (i : Int))), (11, .int (iI at9)), (9, .long (lI be)), (7, .long (lI up)), (6, .int (iI bst)), (5, .int (iI (k : Int))), (4, .int (iI (c : Int))), (3, .ref t), (0, .ref b), (1, .ref a), (2, .int (iI (many : Int)))]) rfl rfl (by intro q hq; simp only [List.mem_cons, List.not_mem_nil, or_false] at hq; rcases hq with rfl | rfl | rfl | rfl | rfl | rfl | rfl | rfl | rfl | rfl | rfl | rfl | rfl <;> rfl) ?_
      exact KK d0 0 (by show _ = T.qs i (T.lgs i); rw [hlg]; (repeat' split) <;> first | omega | (first | rw [hq0] | rw [hq1] | rw [hq2]) <;> omega) (by rw [hlg]; (repeat' split) <;> omega)
    · skip
      refine pe_go (pc := 48) rfl s_lconst0 ?_
      refine pe_go (pc := 49) rfl (s_lstore (lv' := [(13, .long (lI 0)), (12, .int (iI (i : Int))), (11, .int (iI at9)), (9, .long (lI be)), (7, .long (lI up)), (6, .int (iI bst)), (5, .int (iI (k : Int))), (4, .int (iI (c : Int))), (3, .ref t), (0, .ref b), (1, .ref a), (2, .int (iI (many : Int)))]) rfl) ?_
      refine pe_go (pc := 51) rfl (s_iconst (z := 0) rfl) ?_
      refine pe_go (pc := 52) rfl (s_istore (lv' := [(15, .int (iI 0)), (13, .long (lI 0)), (12, .int (iI (i : Int))), (11, .int (iI at9)), (9, .long (lI be)), (7, .long (lI up)), (6, .int (iI bst)), (5, .int (iI (k : Int))), (4, .int (iI (c : Int))), (3, .ref t), (0, .ref b), (1, .ref a), (2, .int (iI (many : Int)))]) rfl) ?_
      refine pe_go (pc := 54) rfl (s_iconst (z := 0) rfl) ?_
      refine pe_go (pc := 55) rfl (s_istore (lv' := [(16, .int (iI 0)), (15, .int (iI 0)), (13, .long (lI 0)), (12, .int (iI (i : Int))), (11, .int (iI at9)), (9, .long (lI be)), (7, .long (lI up)), (6, .int (iI bst)), (5, .int (iI (k : Int))), (4, .int (iI (c : Int))), (3, .ref t), (0, .ref b), (1, .ref a), (2, .int (iI (many : Int)))]) rfl) ?_
      refine pe_go (pc := 57) rfl (s_iload rfl) ?_
      refine pe_go (pc := 59) rfl (s_iconst (z := 3) rfl) ?_
      refine pe_go rfl (s_icmp_ge_f ⟨by decide, by decide⟩ ⟨by decide, by decide⟩ (by decide)) ?_
      refine pe_go (pc := 63) rfl (s_aload_n rfl) ?_
      refine pe_go (pc := 64) rfl (s_getf (v := .ref pa) h0 rfl) ?_
      refine pe_go (pc := 67) rfl (s_aload_n rfl) ?_
      refine pe_go (pc := 68) rfl (s_iload rfl) ?_
      refine pe_go (pc := 70) rfl (s_iload rfl) ?_
      refine pe_call rfl (s_invV rfl (OB.obj hb hO) rfl rfl) (corner_at hb hO hN hN2 (t := i) (k := 0) hi (by decide) hc0) ?_
      refine pe_go (pc := 75) rfl (s_aald h1 (k := p0) (by omega) (by omega) er0) ?_
      refine pe_go (pc := 76) rfl (s_astore (lv' := [(17, .ref r0), (16, .int (iI 0)), (15, .int (iI 0)), (13, .long (lI 0)), (12, .int (iI (i : Int))), (11, .int (iI at9)), (9, .long (lI be)), (7, .long (lI up)), (6, .int (iI bst)), (5, .int (iI (k : Int))), (4, .int (iI (c : Int))), (3, .ref t), (0, .ref b), (1, .ref a), (2, .int (iI (many : Int)))]) rfl) ?_
      refine pe_go (pc := 78) rfl (s_aload_n rfl) ?_
      refine pe_go (pc := 79) rfl (s_getf (v := .ref pa) h0 rfl) ?_
      refine pe_go (pc := 82) rfl (s_aload_n rfl) ?_
      refine pe_go (pc := 83) rfl (s_iload rfl) ?_
      refine pe_go (pc := 85) rfl (s_iload rfl) ?_
      refine pe_go (pc := 87) rfl (s_iconst (z := 1) rfl) ?_
      refine pe_go (q := (89, [(17, .ref r0), (16, .int (iI 0)), (15, .int (iI 0)), (13, .long (lI 0)), (12, .int (iI (i : Int))), (11, .int (iI at9)), (9, .long (lI be)), (7, .long (lI up)), (6, .int (iI bst)), (5, .int (iI (k : Int))), (4, .int (iI (c : Int))), (3, .ref t), (0, .ref b), (1, .ref a), (2, .int (iI (many : Int)))], [.int (iI 1), .int (iI (i : Int)), .ref t, .ref pa], w)) rfl s_iadd ?_
      refine pe_go (pc := 89) rfl (s_iconst (z := 3) rfl) ?_
      refine pe_go (pc := 90) rfl (s_irem ⟨by decide, by decide⟩ ⟨by decide, by decide⟩ (by decide) (by decide) (show Int.tmod 1 3 = 1 from by decide)) ?_
      refine pe_call rfl (s_invV rfl (OB.obj hb hO) rfl rfl) (corner_at hb hO hN hN2 (t := i) (k := 1) hi (by decide) hc1) ?_
      refine pe_go (pc := 94) rfl (s_aald h1 (k := p1) (by omega) (by omega) er1) ?_
      refine pe_go (pc := 95) rfl (s_astore (lv' := [(18, .ref r1), (17, .ref r0), (16, .int (iI 0)), (15, .int (iI 0)), (13, .long (lI 0)), (12, .int (iI (i : Int))), (11, .int (iI at9)), (9, .long (lI be)), (7, .long (lI up)), (6, .int (iI bst)), (5, .int (iI (k : Int))), (4, .int (iI (c : Int))), (3, .ref t), (0, .ref b), (1, .ref a), (2, .int (iI (many : Int)))]) rfl) ?_
      refine pe_go (pc := 97) rfl (s_aload rfl) ?_
      refine pe_go (pc := 99) rfl (s_iconst (z := 0) rfl) ?_
      refine pe_go (pc := 100) rfl (s_iald (n := 3) (f := row3 (T.xs p0) (T.ys p0) (T.hs p0)) (v := T.xs p0) hr0 (k := 0) (by omega) (by omega) (by decide) rfl) ?_
      refine pe_go (pc := 101) rfl (s_aload rfl) ?_
      refine pe_go (pc := 103) rfl (s_iconst (z := 0) rfl) ?_
      refine pe_go (pc := 104) rfl (s_iald (n := 3) (f := row3 (T.xs p1) (T.ys p1) (T.hs p1)) (v := T.xs p1) hr1 (k := 0) (by omega) (by omega) (by decide) rfl) ?_
      refine pe_go (pc := 105) rfl s_isub ?_
      refine pe_go (pc := 106) rfl (s_aload rfl) ?_
      refine pe_go (pc := 108) rfl (s_iconst (z := 0) rfl) ?_
      refine pe_go (pc := 109) rfl (s_iald (n := 3) (f := row3 (T.xs p0) (T.ys p0) (T.hs p0)) (v := T.xs p0) hr0 (k := 0) (by omega) (by omega) (by decide) rfl) ?_
      refine pe_go (pc := 110) rfl (s_aload rfl) ?_
      refine pe_go (pc := 112) rfl (s_iconst (z := 0) rfl) ?_
      refine pe_go (pc := 113) rfl (s_iald (n := 3) (f := row3 (T.xs p1) (T.ys p1) (T.hs p1)) (v := T.xs p1) hr1 (k := 0) (by omega) (by omega) (by decide) rfl) ?_
      refine pe_go (pc := 114) rfl s_isub ?_
      refine pe_go (pc := 115) rfl s_imul ?_
      refine pe_go (pc := 116) rfl (s_aload rfl) ?_
      refine pe_go (pc := 118) rfl (s_iconst (z := 1) rfl) ?_
      refine pe_go (pc := 119) rfl (s_iald (n := 3) (f := row3 (T.xs p0) (T.ys p0) (T.hs p0)) (v := T.ys p0) hr0 (k := 1) (by omega) (by omega) (by decide) rfl) ?_
      refine pe_go (pc := 120) rfl (s_aload rfl) ?_
      refine pe_go (pc := 122) rfl (s_iconst (z := 1) rfl) ?_
      refine pe_go (pc := 123) rfl (s_iald (n := 3) (f := row3 (T.xs p1) (T.ys p1) (T.hs p1)) (v := T.ys p1) hr1 (k := 1) (by omega) (by omega) (by decide) rfl) ?_
      refine pe_go (pc := 124) rfl s_isub ?_
      refine pe_go (pc := 125) rfl (s_aload rfl) ?_
      refine pe_go (pc := 127) rfl (s_iconst (z := 1) rfl) ?_
      refine pe_go (pc := 128) rfl (s_iald (n := 3) (f := row3 (T.xs p0) (T.ys p0) (T.hs p0)) (v := T.ys p0) hr0 (k := 1) (by omega) (by omega) (by decide) rfl) ?_
      refine pe_go (pc := 129) rfl (s_aload rfl) ?_
      refine pe_go (pc := 131) rfl (s_iconst (z := 1) rfl) ?_
      refine pe_go (pc := 132) rfl (s_iald (n := 3) (f := row3 (T.xs p1) (T.ys p1) (T.hs p1)) (v := T.ys p1) hr1 (k := 1) (by omega) (by omega) (by decide) rfl) ?_
      refine pe_go (pc := 133) rfl s_isub ?_
      refine pe_go (pc := 134) rfl s_imul ?_
      refine pe_go (pc := 135) rfl s_iadd ?_
      show qE 156 (136, _, [.int (iI (T.sq p0 p1))], w) Φ
      rw [g0]
      refine pe_go (pc := 136) rfl (s_i2l ⟨by omega, by omega⟩) ?_
      refine pe_go (pc := 137) rfl (s_lstore (lv' := [(19, .long (lI d0)), (18, .ref r1), (17, .ref r0), (16, .int (iI 0)), (15, .int (iI 0)), (13, .long (lI 0)), (12, .int (iI (i : Int))), (11, .int (iI at9)), (9, .long (lI be)), (7, .long (lI up)), (6, .int (iI bst)), (5, .int (iI (k : Int))), (4, .int (iI (c : Int))), (3, .ref t), (0, .ref b), (1, .ref a), (2, .int (iI (many : Int)))]) rfl) ?_
      refine pe_go (pc := 139) rfl (s_lload rfl) ?_
      refine pe_go (pc := 141) rfl (s_lload rfl) ?_
      refine pe_go rfl (s_lcmp_gt ⟨by omega, by omega⟩ ⟨by omega, by omega⟩ (by omega)) ?_
      refine pe_go rfl (s_if_le_f ⟨by decide, by decide⟩ (by decide)) ?_
      refine pe_go (pc := 147) rfl (s_iload rfl) ?_
      refine pe_go (pc := 149) rfl s_goto ?_
      refine pe_go (pc := 154) rfl (s_istore (lv' := [(15, .int (iI 0)), (19, .long (lI d0)), (18, .ref r1), (17, .ref r0), (16, .int (iI 0)), (13, .long (lI 0)), (12, .int (iI (i : Int))), (11, .int (iI at9)), (9, .long (lI be)), (7, .long (lI up)), (6, .int (iI bst)), (5, .int (iI (k : Int))), (4, .int (iI (c : Int))), (3, .ref t), (0, .ref b), (1, .ref a), (2, .int (iI (many : Int)))]) rfl) ?_
      refine pe_go (pc := 156) rfl (s_lload rfl) ?_
      refine pe_go (pc := 158) rfl (s_lload rfl) ?_
      refine pe_call rfl (s_invS rfl rfl rfl) (c_maxL (x := 0) (y := d0) ⟨by omega, by omega⟩ ⟨by omega, by omega⟩) ?_
      rw [zmL_lt (by omega)]
      refine pe_go (pc := 163) rfl (s_lstore (lv' := [(13, .long (lI d0)), (15, .int (iI 0)), (19, .long (lI d0)), (18, .ref r1), (17, .ref r0), (16, .int (iI 0)), (12, .int (iI (i : Int))), (11, .int (iI at9)), (9, .long (lI be)), (7, .long (lI up)), (6, .int (iI bst)), (5, .int (iI (k : Int))), (4, .int (iI (c : Int))), (3, .ref t), (0, .ref b), (1, .ref a), (2, .int (iI (many : Int)))]) rfl) ?_
      refine pe_go (pc := 165) rfl (s_iinc (x := 0) (y := 1) rfl (by omega) (lv' := [(16, .int (iI 1)), (13, .long (lI d0)), (15, .int (iI 0)), (19, .long (lI d0)), (18, .ref r1), (17, .ref r0), (12, .int (iI (i : Int))), (11, .int (iI at9)), (9, .long (lI be)), (7, .long (lI up)), (6, .int (iI bst)), (5, .int (iI (k : Int))), (4, .int (iI (c : Int))), (3, .ref t), (0, .ref b), (1, .ref a), (2, .int (iI (many : Int)))]) rfl) ?_
      refine pe_go (pc := 168) rfl s_goto ?_
      refine pe_go (pc := 57) rfl (s_iload rfl) ?_
      refine pe_go (pc := 59) rfl (s_iconst (z := 3) rfl) ?_
      refine pe_go rfl (s_icmp_ge_f ⟨by decide, by decide⟩ ⟨by decide, by decide⟩ (by decide)) ?_
      refine pe_go (pc := 63) rfl (s_aload_n rfl) ?_
      refine pe_go (pc := 64) rfl (s_getf (v := .ref pa) h0 rfl) ?_
      refine pe_go (pc := 67) rfl (s_aload_n rfl) ?_
      refine pe_go (pc := 68) rfl (s_iload rfl) ?_
      refine pe_go (pc := 70) rfl (s_iload rfl) ?_
      refine pe_call rfl (s_invV rfl (OB.obj hb hO) rfl rfl) (corner_at hb hO hN hN2 (t := i) (k := 1) hi (by decide) hc1) ?_
      refine pe_go (pc := 75) rfl (s_aald h1 (k := p1) (by omega) (by omega) er1) ?_
      refine pe_go (pc := 76) rfl (s_astore (lv' := [(17, .ref r1), (16, .int (iI 1)), (13, .long (lI d0)), (15, .int (iI 0)), (19, .long (lI d0)), (18, .ref r1), (12, .int (iI (i : Int))), (11, .int (iI at9)), (9, .long (lI be)), (7, .long (lI up)), (6, .int (iI bst)), (5, .int (iI (k : Int))), (4, .int (iI (c : Int))), (3, .ref t), (0, .ref b), (1, .ref a), (2, .int (iI (many : Int)))]) rfl) ?_
      refine pe_go (pc := 78) rfl (s_aload_n rfl) ?_
      refine pe_go (pc := 79) rfl (s_getf (v := .ref pa) h0 rfl) ?_
      refine pe_go (pc := 82) rfl (s_aload_n rfl) ?_
      refine pe_go (pc := 83) rfl (s_iload rfl) ?_
      refine pe_go (pc := 85) rfl (s_iload rfl) ?_
      refine pe_go (pc := 87) rfl (s_iconst (z := 1) rfl) ?_
      refine pe_go (q := (89, [(17, .ref r1), (16, .int (iI 1)), (13, .long (lI d0)), (15, .int (iI 0)), (19, .long (lI d0)), (18, .ref r1), (12, .int (iI (i : Int))), (11, .int (iI at9)), (9, .long (lI be)), (7, .long (lI up)), (6, .int (iI bst)), (5, .int (iI (k : Int))), (4, .int (iI (c : Int))), (3, .ref t), (0, .ref b), (1, .ref a), (2, .int (iI (many : Int)))], [.int (iI 2), .int (iI (i : Int)), .ref t, .ref pa], w)) rfl s_iadd ?_
      refine pe_go (pc := 89) rfl (s_iconst (z := 3) rfl) ?_
      refine pe_go (pc := 90) rfl (s_irem ⟨by decide, by decide⟩ ⟨by decide, by decide⟩ (by decide) (by decide) (show Int.tmod 2 3 = 2 from by decide)) ?_
      refine pe_call rfl (s_invV rfl (OB.obj hb hO) rfl rfl) (corner_at hb hO hN hN2 (t := i) (k := 2) hi (by decide) hc2) ?_
      refine pe_go (pc := 94) rfl (s_aald h1 (k := p2) (by omega) (by omega) er2) ?_
      refine pe_go (pc := 95) rfl (s_astore (lv' := [(18, .ref r2), (17, .ref r1), (16, .int (iI 1)), (13, .long (lI d0)), (15, .int (iI 0)), (19, .long (lI d0)), (12, .int (iI (i : Int))), (11, .int (iI at9)), (9, .long (lI be)), (7, .long (lI up)), (6, .int (iI bst)), (5, .int (iI (k : Int))), (4, .int (iI (c : Int))), (3, .ref t), (0, .ref b), (1, .ref a), (2, .int (iI (many : Int)))]) rfl) ?_
      refine pe_go (pc := 97) rfl (s_aload rfl) ?_
      refine pe_go (pc := 99) rfl (s_iconst (z := 0) rfl) ?_
      refine pe_go (pc := 100) rfl (s_iald (n := 3) (f := row3 (T.xs p1) (T.ys p1) (T.hs p1)) (v := T.xs p1) hr1 (k := 0) (by omega) (by omega) (by decide) rfl) ?_
      refine pe_go (pc := 101) rfl (s_aload rfl) ?_
      refine pe_go (pc := 103) rfl (s_iconst (z := 0) rfl) ?_
      refine pe_go (pc := 104) rfl (s_iald (n := 3) (f := row3 (T.xs p2) (T.ys p2) (T.hs p2)) (v := T.xs p2) hr2 (k := 0) (by omega) (by omega) (by decide) rfl) ?_
      refine pe_go (pc := 105) rfl s_isub ?_
      refine pe_go (pc := 106) rfl (s_aload rfl) ?_
      refine pe_go (pc := 108) rfl (s_iconst (z := 0) rfl) ?_
      refine pe_go (pc := 109) rfl (s_iald (n := 3) (f := row3 (T.xs p1) (T.ys p1) (T.hs p1)) (v := T.xs p1) hr1 (k := 0) (by omega) (by omega) (by decide) rfl) ?_
      refine pe_go (pc := 110) rfl (s_aload rfl) ?_
      refine pe_go (pc := 112) rfl (s_iconst (z := 0) rfl) ?_
      refine pe_go (pc := 113) rfl (s_iald (n := 3) (f := row3 (T.xs p2) (T.ys p2) (T.hs p2)) (v := T.xs p2) hr2 (k := 0) (by omega) (by omega) (by decide) rfl) ?_
      refine pe_go (pc := 114) rfl s_isub ?_
      refine pe_go (pc := 115) rfl s_imul ?_
      refine pe_go (pc := 116) rfl (s_aload rfl) ?_
      refine pe_go (pc := 118) rfl (s_iconst (z := 1) rfl) ?_
      refine pe_go (pc := 119) rfl (s_iald (n := 3) (f := row3 (T.xs p1) (T.ys p1) (T.hs p1)) (v := T.ys p1) hr1 (k := 1) (by omega) (by omega) (by decide) rfl) ?_
      refine pe_go (pc := 120) rfl (s_aload rfl) ?_
      refine pe_go (pc := 122) rfl (s_iconst (z := 1) rfl) ?_
      refine pe_go (pc := 123) rfl (s_iald (n := 3) (f := row3 (T.xs p2) (T.ys p2) (T.hs p2)) (v := T.ys p2) hr2 (k := 1) (by omega) (by omega) (by decide) rfl) ?_
      refine pe_go (pc := 124) rfl s_isub ?_
      refine pe_go (pc := 125) rfl (s_aload rfl) ?_
      refine pe_go (pc := 127) rfl (s_iconst (z := 1) rfl) ?_
      refine pe_go (pc := 128) rfl (s_iald (n := 3) (f := row3 (T.xs p1) (T.ys p1) (T.hs p1)) (v := T.ys p1) hr1 (k := 1) (by omega) (by omega) (by decide) rfl) ?_
      refine pe_go (pc := 129) rfl (s_aload rfl) ?_
      refine pe_go (pc := 131) rfl (s_iconst (z := 1) rfl) ?_
      refine pe_go (pc := 132) rfl (s_iald (n := 3) (f := row3 (T.xs p2) (T.ys p2) (T.hs p2)) (v := T.ys p2) hr2 (k := 1) (by omega) (by omega) (by decide) rfl) ?_
      refine pe_go (pc := 133) rfl s_isub ?_
      refine pe_go (pc := 134) rfl s_imul ?_
      refine pe_go (pc := 135) rfl s_iadd ?_
      show qE 156 (136, _, [.int (iI (T.sq p1 p2))], w) Φ
      rw [g1]
      refine pe_go (pc := 136) rfl (s_i2l ⟨by omega, by omega⟩) ?_
      refine pe_go (pc := 137) rfl (s_lstore (lv' := [(19, .long (lI d1)), (18, .ref r2), (17, .ref r1), (16, .int (iI 1)), (13, .long (lI d0)), (15, .int (iI 0)), (12, .int (iI (i : Int))), (11, .int (iI at9)), (9, .long (lI be)), (7, .long (lI up)), (6, .int (iI bst)), (5, .int (iI (k : Int))), (4, .int (iI (c : Int))), (3, .ref t), (0, .ref b), (1, .ref a), (2, .int (iI (many : Int)))]) rfl) ?_
      refine pe_go (pc := 139) rfl (s_lload rfl) ?_
      refine pe_go (pc := 141) rfl (s_lload rfl) ?_
      refine pe_go rfl (s_lcmp_lt ⟨by omega, by omega⟩ ⟨by omega, by omega⟩ c1) ?_
      refine pe_go rfl (s_if_le_t ⟨by decide, by decide⟩ (by decide)) ?_
      refine pe_go (pc := 152) rfl (s_iload rfl) ?_
      refine pe_go (pc := 154) rfl (s_istore (lv' := [(15, .int (iI 0)), (19, .long (lI d1)), (18, .ref r2), (17, .ref r1), (16, .int (iI 1)), (13, .long (lI d0)), (12, .int (iI (i : Int))), (11, .int (iI at9)), (9, .long (lI be)), (7, .long (lI up)), (6, .int (iI bst)), (5, .int (iI (k : Int))), (4, .int (iI (c : Int))), (3, .ref t), (0, .ref b), (1, .ref a), (2, .int (iI (many : Int)))]) rfl) ?_
      refine pe_go (pc := 156) rfl (s_lload rfl) ?_
      refine pe_go (pc := 158) rfl (s_lload rfl) ?_
      refine pe_call rfl (s_invS rfl rfl rfl) (c_maxL (x := d0) (y := d1) ⟨by omega, by omega⟩ ⟨by omega, by omega⟩) ?_
      rw [zmL_ge (by omega)]
      refine pe_go (pc := 163) rfl (s_lstore (lv' := [(13, .long (lI d0)), (15, .int (iI 0)), (19, .long (lI d1)), (18, .ref r2), (17, .ref r1), (16, .int (iI 1)), (12, .int (iI (i : Int))), (11, .int (iI at9)), (9, .long (lI be)), (7, .long (lI up)), (6, .int (iI bst)), (5, .int (iI (k : Int))), (4, .int (iI (c : Int))), (3, .ref t), (0, .ref b), (1, .ref a), (2, .int (iI (many : Int)))]) rfl) ?_
      refine pe_go (pc := 165) rfl (s_iinc (x := 1) (y := 2) rfl (by omega) (lv' := [(16, .int (iI 2)), (13, .long (lI d0)), (15, .int (iI 0)), (19, .long (lI d1)), (18, .ref r2), (17, .ref r1), (12, .int (iI (i : Int))), (11, .int (iI at9)), (9, .long (lI be)), (7, .long (lI up)), (6, .int (iI bst)), (5, .int (iI (k : Int))), (4, .int (iI (c : Int))), (3, .ref t), (0, .ref b), (1, .ref a), (2, .int (iI (many : Int)))]) rfl) ?_
      refine pe_go (pc := 168) rfl s_goto ?_
      refine pe_go (pc := 57) rfl (s_iload rfl) ?_
      refine pe_go (pc := 59) rfl (s_iconst (z := 3) rfl) ?_
      refine pe_go rfl (s_icmp_ge_f ⟨by decide, by decide⟩ ⟨by decide, by decide⟩ (by decide)) ?_
      refine pe_go (pc := 63) rfl (s_aload_n rfl) ?_
      refine pe_go (pc := 64) rfl (s_getf (v := .ref pa) h0 rfl) ?_
      refine pe_go (pc := 67) rfl (s_aload_n rfl) ?_
      refine pe_go (pc := 68) rfl (s_iload rfl) ?_
      refine pe_go (pc := 70) rfl (s_iload rfl) ?_
      refine pe_call rfl (s_invV rfl (OB.obj hb hO) rfl rfl) (corner_at hb hO hN hN2 (t := i) (k := 2) hi (by decide) hc2) ?_
      refine pe_go (pc := 75) rfl (s_aald h1 (k := p2) (by omega) (by omega) er2) ?_
      refine pe_go (pc := 76) rfl (s_astore (lv' := [(17, .ref r2), (16, .int (iI 2)), (13, .long (lI d0)), (15, .int (iI 0)), (19, .long (lI d1)), (18, .ref r2), (12, .int (iI (i : Int))), (11, .int (iI at9)), (9, .long (lI be)), (7, .long (lI up)), (6, .int (iI bst)), (5, .int (iI (k : Int))), (4, .int (iI (c : Int))), (3, .ref t), (0, .ref b), (1, .ref a), (2, .int (iI (many : Int)))]) rfl) ?_
      refine pe_go (pc := 78) rfl (s_aload_n rfl) ?_
      refine pe_go (pc := 79) rfl (s_getf (v := .ref pa) h0 rfl) ?_
      refine pe_go (pc := 82) rfl (s_aload_n rfl) ?_
      refine pe_go (pc := 83) rfl (s_iload rfl) ?_
      refine pe_go (pc := 85) rfl (s_iload rfl) ?_
      refine pe_go (pc := 87) rfl (s_iconst (z := 1) rfl) ?_
      refine pe_go (q := (89, [(17, .ref r2), (16, .int (iI 2)), (13, .long (lI d0)), (15, .int (iI 0)), (19, .long (lI d1)), (18, .ref r2), (12, .int (iI (i : Int))), (11, .int (iI at9)), (9, .long (lI be)), (7, .long (lI up)), (6, .int (iI bst)), (5, .int (iI (k : Int))), (4, .int (iI (c : Int))), (3, .ref t), (0, .ref b), (1, .ref a), (2, .int (iI (many : Int)))], [.int (iI 3), .int (iI (i : Int)), .ref t, .ref pa], w)) rfl s_iadd ?_
      refine pe_go (pc := 89) rfl (s_iconst (z := 3) rfl) ?_
      refine pe_go (pc := 90) rfl (s_irem ⟨by decide, by decide⟩ ⟨by decide, by decide⟩ (by decide) (by decide) (show Int.tmod 3 3 = 0 from by decide)) ?_
      refine pe_call rfl (s_invV rfl (OB.obj hb hO) rfl rfl) (corner_at hb hO hN hN2 (t := i) (k := 0) hi (by decide) hc0) ?_
      refine pe_go (pc := 94) rfl (s_aald h1 (k := p0) (by omega) (by omega) er0) ?_
      refine pe_go (pc := 95) rfl (s_astore (lv' := [(18, .ref r0), (17, .ref r2), (16, .int (iI 2)), (13, .long (lI d0)), (15, .int (iI 0)), (19, .long (lI d1)), (12, .int (iI (i : Int))), (11, .int (iI at9)), (9, .long (lI be)), (7, .long (lI up)), (6, .int (iI bst)), (5, .int (iI (k : Int))), (4, .int (iI (c : Int))), (3, .ref t), (0, .ref b), (1, .ref a), (2, .int (iI (many : Int)))]) rfl) ?_
      refine pe_go (pc := 97) rfl (s_aload rfl) ?_
      refine pe_go (pc := 99) rfl (s_iconst (z := 0) rfl) ?_
      refine pe_go (pc := 100) rfl (s_iald (n := 3) (f := row3 (T.xs p2) (T.ys p2) (T.hs p2)) (v := T.xs p2) hr2 (k := 0) (by omega) (by omega) (by decide) rfl) ?_
      refine pe_go (pc := 101) rfl (s_aload rfl) ?_
      refine pe_go (pc := 103) rfl (s_iconst (z := 0) rfl) ?_
      refine pe_go (pc := 104) rfl (s_iald (n := 3) (f := row3 (T.xs p0) (T.ys p0) (T.hs p0)) (v := T.xs p0) hr0 (k := 0) (by omega) (by omega) (by decide) rfl) ?_
      refine pe_go (pc := 105) rfl s_isub ?_
      refine pe_go (pc := 106) rfl (s_aload rfl) ?_
      refine pe_go (pc := 108) rfl (s_iconst (z := 0) rfl) ?_
      refine pe_go (pc := 109) rfl (s_iald (n := 3) (f := row3 (T.xs p2) (T.ys p2) (T.hs p2)) (v := T.xs p2) hr2 (k := 0) (by omega) (by omega) (by decide) rfl) ?_
      refine pe_go (pc := 110) rfl (s_aload rfl) ?_
      refine pe_go (pc := 112) rfl (s_iconst (z := 0) rfl) ?_
      refine pe_go (pc := 113) rfl (s_iald (n := 3) (f := row3 (T.xs p0) (T.ys p0) (T.hs p0)) (v := T.xs p0) hr0 (k := 0) (by omega) (by omega) (by decide) rfl) ?_
      refine pe_go (pc := 114) rfl s_isub ?_
      refine pe_go (pc := 115) rfl s_imul ?_
      refine pe_go (pc := 116) rfl (s_aload rfl) ?_
      refine pe_go (pc := 118) rfl (s_iconst (z := 1) rfl) ?_
      refine pe_go (pc := 119) rfl (s_iald (n := 3) (f := row3 (T.xs p2) (T.ys p2) (T.hs p2)) (v := T.ys p2) hr2 (k := 1) (by omega) (by omega) (by decide) rfl) ?_
      refine pe_go (pc := 120) rfl (s_aload rfl) ?_
      refine pe_go (pc := 122) rfl (s_iconst (z := 1) rfl) ?_
      refine pe_go (pc := 123) rfl (s_iald (n := 3) (f := row3 (T.xs p0) (T.ys p0) (T.hs p0)) (v := T.ys p0) hr0 (k := 1) (by omega) (by omega) (by decide) rfl) ?_
      refine pe_go (pc := 124) rfl s_isub ?_
      refine pe_go (pc := 125) rfl (s_aload rfl) ?_
      refine pe_go (pc := 127) rfl (s_iconst (z := 1) rfl) ?_
      refine pe_go (pc := 128) rfl (s_iald (n := 3) (f := row3 (T.xs p2) (T.ys p2) (T.hs p2)) (v := T.ys p2) hr2 (k := 1) (by omega) (by omega) (by decide) rfl) ?_
      refine pe_go (pc := 129) rfl (s_aload rfl) ?_
      refine pe_go (pc := 131) rfl (s_iconst (z := 1) rfl) ?_
      refine pe_go (pc := 132) rfl (s_iald (n := 3) (f := row3 (T.xs p0) (T.ys p0) (T.hs p0)) (v := T.ys p0) hr0 (k := 1) (by omega) (by omega) (by decide) rfl) ?_
      refine pe_go (pc := 133) rfl s_isub ?_
      refine pe_go (pc := 134) rfl s_imul ?_
      refine pe_go (pc := 135) rfl s_iadd ?_
      show qE 156 (136, _, [.int (iI (T.sq p2 p0))], w) Φ
      rw [g2]
      refine pe_go (pc := 136) rfl (s_i2l ⟨by omega, by omega⟩) ?_
      refine pe_go (pc := 137) rfl (s_lstore (lv' := [(19, .long (lI d2)), (18, .ref r0), (17, .ref r2), (16, .int (iI 2)), (13, .long (lI d0)), (15, .int (iI 0)), (12, .int (iI (i : Int))), (11, .int (iI at9)), (9, .long (lI be)), (7, .long (lI up)), (6, .int (iI bst)), (5, .int (iI (k : Int))), (4, .int (iI (c : Int))), (3, .ref t), (0, .ref b), (1, .ref a), (2, .int (iI (many : Int)))]) rfl) ?_
      refine pe_go (pc := 139) rfl (s_lload rfl) ?_
      refine pe_go (pc := 141) rfl (s_lload rfl) ?_
      refine pe_go rfl (s_lcmp_gt ⟨by omega, by omega⟩ ⟨by omega, by omega⟩ c2) ?_
      refine pe_go rfl (s_if_le_f ⟨by decide, by decide⟩ (by decide)) ?_
      refine pe_go (pc := 147) rfl (s_iload rfl) ?_
      refine pe_go (pc := 149) rfl s_goto ?_
      refine pe_go (pc := 154) rfl (s_istore (lv' := [(15, .int (iI 2)), (19, .long (lI d2)), (18, .ref r0), (17, .ref r2), (16, .int (iI 2)), (13, .long (lI d0)), (12, .int (iI (i : Int))), (11, .int (iI at9)), (9, .long (lI be)), (7, .long (lI up)), (6, .int (iI bst)), (5, .int (iI (k : Int))), (4, .int (iI (c : Int))), (3, .ref t), (0, .ref b), (1, .ref a), (2, .int (iI (many : Int)))]) rfl) ?_
      refine pe_go (pc := 156) rfl (s_lload rfl) ?_
      refine pe_go (pc := 158) rfl (s_lload rfl) ?_
      refine pe_call rfl (s_invS rfl rfl rfl) (c_maxL (x := d0) (y := d2) ⟨by omega, by omega⟩ ⟨by omega, by omega⟩) ?_
      rw [zmL_lt (by omega)]
      refine pe_go (pc := 163) rfl (s_lstore (lv' := [(13, .long (lI d2)), (15, .int (iI 2)), (19, .long (lI d2)), (18, .ref r0), (17, .ref r2), (16, .int (iI 2)), (12, .int (iI (i : Int))), (11, .int (iI at9)), (9, .long (lI be)), (7, .long (lI up)), (6, .int (iI bst)), (5, .int (iI (k : Int))), (4, .int (iI (c : Int))), (3, .ref t), (0, .ref b), (1, .ref a), (2, .int (iI (many : Int)))]) rfl) ?_
      refine pe_go (pc := 165) rfl (s_iinc (x := 2) (y := 3) rfl (by omega) (lv' := [(16, .int (iI 3)), (13, .long (lI d2)), (15, .int (iI 2)), (19, .long (lI d2)), (18, .ref r0), (17, .ref r2), (12, .int (iI (i : Int))), (11, .int (iI at9)), (9, .long (lI be)), (7, .long (lI up)), (6, .int (iI bst)), (5, .int (iI (k : Int))), (4, .int (iI (c : Int))), (3, .ref t), (0, .ref b), (1, .ref a), (2, .int (iI (many : Int)))]) rfl) ?_
      refine pe_go (pc := 168) rfl s_goto ?_
      refine pe_go (pc := 57) rfl (s_iload rfl) ?_
      refine pe_go (pc := 59) rfl (s_iconst (z := 3) rfl) ?_
      refine pe_go rfl (s_icmp_ge_t ⟨by decide, by decide⟩ ⟨by decide, by decide⟩ (by decide)) ?_
      refine pe_few (lv := [(15, .int (iI ((2 : Nat) : Int))), (13, .long (lI d2)), (12, .int (iI (i : Int))), (11, .int (iI at9)), (9, .long (lI be)), (7, .long (lI up)), (6, .int (iI bst)), (5, .int (iI (k : Int))), (4, .int (iI (c : Int))), (3, .ref t), (0, .ref b), (1, .ref a), (2, .int (iI (many : Int)))]) rfl rfl (by intro q hq; simp only [List.mem_cons, List.not_mem_nil, or_false] at hq; rcases hq with rfl | rfl | rfl | rfl | rfl | rfl | rfl | rfl | rfl | rfl | rfl | rfl | rfl <;> rfl) ?_
      exact KK d2 2 (by show _ = T.qs i (T.lgs i); rw [hlg]; (repeat' split) <;> first | omega | (first | rw [hq0] | rw [hq1] | rw [hq2]) <;> omega) (by rw [hlg]; (repeat' split) <;> omega)
  · skip
    rcases Int.lt_trichotomy d2 d0 with c2 | c2 | c2
    · skip
      refine pe_go (pc := 48) rfl s_lconst0 ?_
      refine pe_go (pc := 49) rfl (s_lstore (lv' := [(13, .long (lI 0)), (12, .int (iI (i : Int))), (11, .int (iI at9)), (9, .long (lI be)), (7, .long (lI up)), (6, .int (iI bst)), (5, .int (iI (k : Int))), (4, .int (iI (c : Int))), (3, .ref t), (0, .ref b), (1, .ref a), (2, .int (iI (many : Int)))]) rfl) ?_
      refine pe_go (pc := 51) rfl (s_iconst (z := 0) rfl) ?_
      refine pe_go (pc := 52) rfl (s_istore (lv' := [(15, .int (iI 0)), (13, .long (lI 0)), (12, .int (iI (i : Int))), (11, .int (iI at9)), (9, .long (lI be)), (7, .long (lI up)), (6, .int (iI bst)), (5, .int (iI (k : Int))), (4, .int (iI (c : Int))), (3, .ref t), (0, .ref b), (1, .ref a), (2, .int (iI (many : Int)))]) rfl) ?_
      refine pe_go (pc := 54) rfl (s_iconst (z := 0) rfl) ?_
      refine pe_go (pc := 55) rfl (s_istore (lv' := [(16, .int (iI 0)), (15, .int (iI 0)), (13, .long (lI 0)), (12, .int (iI (i : Int))), (11, .int (iI at9)), (9, .long (lI be)), (7, .long (lI up)), (6, .int (iI bst)), (5, .int (iI (k : Int))), (4, .int (iI (c : Int))), (3, .ref t), (0, .ref b), (1, .ref a), (2, .int (iI (many : Int)))]) rfl) ?_
      refine pe_go (pc := 57) rfl (s_iload rfl) ?_
      refine pe_go (pc := 59) rfl (s_iconst (z := 3) rfl) ?_
      refine pe_go rfl (s_icmp_ge_f ⟨by decide, by decide⟩ ⟨by decide, by decide⟩ (by decide)) ?_
      refine pe_go (pc := 63) rfl (s_aload_n rfl) ?_
      refine pe_go (pc := 64) rfl (s_getf (v := .ref pa) h0 rfl) ?_
      refine pe_go (pc := 67) rfl (s_aload_n rfl) ?_
      refine pe_go (pc := 68) rfl (s_iload rfl) ?_
      refine pe_go (pc := 70) rfl (s_iload rfl) ?_
      refine pe_call rfl (s_invV rfl (OB.obj hb hO) rfl rfl) (corner_at hb hO hN hN2 (t := i) (k := 0) hi (by decide) hc0) ?_
      refine pe_go (pc := 75) rfl (s_aald h1 (k := p0) (by omega) (by omega) er0) ?_
      refine pe_go (pc := 76) rfl (s_astore (lv' := [(17, .ref r0), (16, .int (iI 0)), (15, .int (iI 0)), (13, .long (lI 0)), (12, .int (iI (i : Int))), (11, .int (iI at9)), (9, .long (lI be)), (7, .long (lI up)), (6, .int (iI bst)), (5, .int (iI (k : Int))), (4, .int (iI (c : Int))), (3, .ref t), (0, .ref b), (1, .ref a), (2, .int (iI (many : Int)))]) rfl) ?_
      refine pe_go (pc := 78) rfl (s_aload_n rfl) ?_
      refine pe_go (pc := 79) rfl (s_getf (v := .ref pa) h0 rfl) ?_
      refine pe_go (pc := 82) rfl (s_aload_n rfl) ?_
      refine pe_go (pc := 83) rfl (s_iload rfl) ?_
      refine pe_go (pc := 85) rfl (s_iload rfl) ?_
      refine pe_go (pc := 87) rfl (s_iconst (z := 1) rfl) ?_
      refine pe_go (q := (89, [(17, .ref r0), (16, .int (iI 0)), (15, .int (iI 0)), (13, .long (lI 0)), (12, .int (iI (i : Int))), (11, .int (iI at9)), (9, .long (lI be)), (7, .long (lI up)), (6, .int (iI bst)), (5, .int (iI (k : Int))), (4, .int (iI (c : Int))), (3, .ref t), (0, .ref b), (1, .ref a), (2, .int (iI (many : Int)))], [.int (iI 1), .int (iI (i : Int)), .ref t, .ref pa], w)) rfl s_iadd ?_
      refine pe_go (pc := 89) rfl (s_iconst (z := 3) rfl) ?_
      refine pe_go (pc := 90) rfl (s_irem ⟨by decide, by decide⟩ ⟨by decide, by decide⟩ (by decide) (by decide) (show Int.tmod 1 3 = 1 from by decide)) ?_
      refine pe_call rfl (s_invV rfl (OB.obj hb hO) rfl rfl) (corner_at hb hO hN hN2 (t := i) (k := 1) hi (by decide) hc1) ?_
      refine pe_go (pc := 94) rfl (s_aald h1 (k := p1) (by omega) (by omega) er1) ?_
      refine pe_go (pc := 95) rfl (s_astore (lv' := [(18, .ref r1), (17, .ref r0), (16, .int (iI 0)), (15, .int (iI 0)), (13, .long (lI 0)), (12, .int (iI (i : Int))), (11, .int (iI at9)), (9, .long (lI be)), (7, .long (lI up)), (6, .int (iI bst)), (5, .int (iI (k : Int))), (4, .int (iI (c : Int))), (3, .ref t), (0, .ref b), (1, .ref a), (2, .int (iI (many : Int)))]) rfl) ?_
      refine pe_go (pc := 97) rfl (s_aload rfl) ?_
      refine pe_go (pc := 99) rfl (s_iconst (z := 0) rfl) ?_
      refine pe_go (pc := 100) rfl (s_iald (n := 3) (f := row3 (T.xs p0) (T.ys p0) (T.hs p0)) (v := T.xs p0) hr0 (k := 0) (by omega) (by omega) (by decide) rfl) ?_
      refine pe_go (pc := 101) rfl (s_aload rfl) ?_
      refine pe_go (pc := 103) rfl (s_iconst (z := 0) rfl) ?_
      refine pe_go (pc := 104) rfl (s_iald (n := 3) (f := row3 (T.xs p1) (T.ys p1) (T.hs p1)) (v := T.xs p1) hr1 (k := 0) (by omega) (by omega) (by decide) rfl) ?_
      refine pe_go (pc := 105) rfl s_isub ?_
      refine pe_go (pc := 106) rfl (s_aload rfl) ?_
      refine pe_go (pc := 108) rfl (s_iconst (z := 0) rfl) ?_
      refine pe_go (pc := 109) rfl (s_iald (n := 3) (f := row3 (T.xs p0) (T.ys p0) (T.hs p0)) (v := T.xs p0) hr0 (k := 0) (by omega) (by omega) (by decide) rfl) ?_
      refine pe_go (pc := 110) rfl (s_aload rfl) ?_
      refine pe_go (pc := 112) rfl (s_iconst (z := 0) rfl) ?_
      refine pe_go (pc := 113) rfl (s_iald (n := 3) (f := row3 (T.xs p1) (T.ys p1) (T.hs p1)) (v := T.xs p1) hr1 (k := 0) (by omega) (by omega) (by decide) rfl) ?_
      refine pe_go (pc := 114) rfl s_isub ?_
      refine pe_go (pc := 115) rfl s_imul ?_
      refine pe_go (pc := 116) rfl (s_aload rfl) ?_
      refine pe_go (pc := 118) rfl (s_iconst (z := 1) rfl) ?_
      refine pe_go (pc := 119) rfl (s_iald (n := 3) (f := row3 (T.xs p0) (T.ys p0) (T.hs p0)) (v := T.ys p0) hr0 (k := 1) (by omega) (by omega) (by decide) rfl) ?_
      refine pe_go (pc := 120) rfl (s_aload rfl) ?_
      refine pe_go (pc := 122) rfl (s_iconst (z := 1) rfl) ?_
      refine pe_go (pc := 123) rfl (s_iald (n := 3) (f := row3 (T.xs p1) (T.ys p1) (T.hs p1)) (v := T.ys p1) hr1 (k := 1) (by omega) (by omega) (by decide) rfl) ?_
      refine pe_go (pc := 124) rfl s_isub ?_
      refine pe_go (pc := 125) rfl (s_aload rfl) ?_
      refine pe_go (pc := 127) rfl (s_iconst (z := 1) rfl) ?_
      refine pe_go (pc := 128) rfl (s_iald (n := 3) (f := row3 (T.xs p0) (T.ys p0) (T.hs p0)) (v := T.ys p0) hr0 (k := 1) (by omega) (by omega) (by decide) rfl) ?_
      refine pe_go (pc := 129) rfl (s_aload rfl) ?_
      refine pe_go (pc := 131) rfl (s_iconst (z := 1) rfl) ?_
      refine pe_go (pc := 132) rfl (s_iald (n := 3) (f := row3 (T.xs p1) (T.ys p1) (T.hs p1)) (v := T.ys p1) hr1 (k := 1) (by omega) (by omega) (by decide) rfl) ?_
      refine pe_go (pc := 133) rfl s_isub ?_
      refine pe_go (pc := 134) rfl s_imul ?_
      refine pe_go (pc := 135) rfl s_iadd ?_
      show qE 156 (136, _, [.int (iI (T.sq p0 p1))], w) Φ
      rw [g0]
      refine pe_go (pc := 136) rfl (s_i2l ⟨by omega, by omega⟩) ?_
      refine pe_go (pc := 137) rfl (s_lstore (lv' := [(19, .long (lI d0)), (18, .ref r1), (17, .ref r0), (16, .int (iI 0)), (15, .int (iI 0)), (13, .long (lI 0)), (12, .int (iI (i : Int))), (11, .int (iI at9)), (9, .long (lI be)), (7, .long (lI up)), (6, .int (iI bst)), (5, .int (iI (k : Int))), (4, .int (iI (c : Int))), (3, .ref t), (0, .ref b), (1, .ref a), (2, .int (iI (many : Int)))]) rfl) ?_
      refine pe_go (pc := 139) rfl (s_lload rfl) ?_
      refine pe_go (pc := 141) rfl (s_lload rfl) ?_
      refine pe_go rfl (s_lcmp_gt ⟨by omega, by omega⟩ ⟨by omega, by omega⟩ (by omega)) ?_
      refine pe_go rfl (s_if_le_f ⟨by decide, by decide⟩ (by decide)) ?_
      refine pe_go (pc := 147) rfl (s_iload rfl) ?_
      refine pe_go (pc := 149) rfl s_goto ?_
      refine pe_go (pc := 154) rfl (s_istore (lv' := [(15, .int (iI 0)), (19, .long (lI d0)), (18, .ref r1), (17, .ref r0), (16, .int (iI 0)), (13, .long (lI 0)), (12, .int (iI (i : Int))), (11, .int (iI at9)), (9, .long (lI be)), (7, .long (lI up)), (6, .int (iI bst)), (5, .int (iI (k : Int))), (4, .int (iI (c : Int))), (3, .ref t), (0, .ref b), (1, .ref a), (2, .int (iI (many : Int)))]) rfl) ?_
      refine pe_go (pc := 156) rfl (s_lload rfl) ?_
      refine pe_go (pc := 158) rfl (s_lload rfl) ?_
      refine pe_call rfl (s_invS rfl rfl rfl) (c_maxL (x := 0) (y := d0) ⟨by omega, by omega⟩ ⟨by omega, by omega⟩) ?_
      rw [zmL_lt (by omega)]
      refine pe_go (pc := 163) rfl (s_lstore (lv' := [(13, .long (lI d0)), (15, .int (iI 0)), (19, .long (lI d0)), (18, .ref r1), (17, .ref r0), (16, .int (iI 0)), (12, .int (iI (i : Int))), (11, .int (iI at9)), (9, .long (lI be)), (7, .long (lI up)), (6, .int (iI bst)), (5, .int (iI (k : Int))), (4, .int (iI (c : Int))), (3, .ref t), (0, .ref b), (1, .ref a), (2, .int (iI (many : Int)))]) rfl) ?_
      refine pe_go (pc := 165) rfl (s_iinc (x := 0) (y := 1) rfl (by omega) (lv' := [(16, .int (iI 1)), (13, .long (lI d0)), (15, .int (iI 0)), (19, .long (lI d0)), (18, .ref r1), (17, .ref r0), (12, .int (iI (i : Int))), (11, .int (iI at9)), (9, .long (lI be)), (7, .long (lI up)), (6, .int (iI bst)), (5, .int (iI (k : Int))), (4, .int (iI (c : Int))), (3, .ref t), (0, .ref b), (1, .ref a), (2, .int (iI (many : Int)))]) rfl) ?_
      refine pe_go (pc := 168) rfl s_goto ?_
      refine pe_go (pc := 57) rfl (s_iload rfl) ?_
      refine pe_go (pc := 59) rfl (s_iconst (z := 3) rfl) ?_
      refine pe_go rfl (s_icmp_ge_f ⟨by decide, by decide⟩ ⟨by decide, by decide⟩ (by decide)) ?_
      refine pe_go (pc := 63) rfl (s_aload_n rfl) ?_
      refine pe_go (pc := 64) rfl (s_getf (v := .ref pa) h0 rfl) ?_
      refine pe_go (pc := 67) rfl (s_aload_n rfl) ?_
      refine pe_go (pc := 68) rfl (s_iload rfl) ?_
      refine pe_go (pc := 70) rfl (s_iload rfl) ?_
      refine pe_call rfl (s_invV rfl (OB.obj hb hO) rfl rfl) (corner_at hb hO hN hN2 (t := i) (k := 1) hi (by decide) hc1) ?_
      refine pe_go (pc := 75) rfl (s_aald h1 (k := p1) (by omega) (by omega) er1) ?_
      refine pe_go (pc := 76) rfl (s_astore (lv' := [(17, .ref r1), (16, .int (iI 1)), (13, .long (lI d0)), (15, .int (iI 0)), (19, .long (lI d0)), (18, .ref r1), (12, .int (iI (i : Int))), (11, .int (iI at9)), (9, .long (lI be)), (7, .long (lI up)), (6, .int (iI bst)), (5, .int (iI (k : Int))), (4, .int (iI (c : Int))), (3, .ref t), (0, .ref b), (1, .ref a), (2, .int (iI (many : Int)))]) rfl) ?_
      refine pe_go (pc := 78) rfl (s_aload_n rfl) ?_
      refine pe_go (pc := 79) rfl (s_getf (v := .ref pa) h0 rfl) ?_
      refine pe_go (pc := 82) rfl (s_aload_n rfl) ?_
      refine pe_go (pc := 83) rfl (s_iload rfl) ?_
      refine pe_go (pc := 85) rfl (s_iload rfl) ?_
      refine pe_go (pc := 87) rfl (s_iconst (z := 1) rfl) ?_
      refine pe_go (q := (89, [(17, .ref r1), (16, .int (iI 1)), (13, .long (lI d0)), (15, .int (iI 0)), (19, .long (lI d0)), (18, .ref r1), (12, .int (iI (i : Int))), (11, .int (iI at9)), (9, .long (lI be)), (7, .long (lI up)), (6, .int (iI bst)), (5, .int (iI (k : Int))), (4, .int (iI (c : Int))), (3, .ref t), (0, .ref b), (1, .ref a), (2, .int (iI (many : Int)))], [.int (iI 2), .int (iI (i : Int)), .ref t, .ref pa], w)) rfl s_iadd ?_
      refine pe_go (pc := 89) rfl (s_iconst (z := 3) rfl) ?_
      refine pe_go (pc := 90) rfl (s_irem ⟨by decide, by decide⟩ ⟨by decide, by decide⟩ (by decide) (by decide) (show Int.tmod 2 3 = 2 from by decide)) ?_
      refine pe_call rfl (s_invV rfl (OB.obj hb hO) rfl rfl) (corner_at hb hO hN hN2 (t := i) (k := 2) hi (by decide) hc2) ?_
      refine pe_go (pc := 94) rfl (s_aald h1 (k := p2) (by omega) (by omega) er2) ?_
      refine pe_go (pc := 95) rfl (s_astore (lv' := [(18, .ref r2), (17, .ref r1), (16, .int (iI 1)), (13, .long (lI d0)), (15, .int (iI 0)), (19, .long (lI d0)), (12, .int (iI (i : Int))), (11, .int (iI at9)), (9, .long (lI be)), (7, .long (lI up)), (6, .int (iI bst)), (5, .int (iI (k : Int))), (4, .int (iI (c : Int))), (3, .ref t), (0, .ref b), (1, .ref a), (2, .int (iI (many : Int)))]) rfl) ?_
      refine pe_go (pc := 97) rfl (s_aload rfl) ?_
      refine pe_go (pc := 99) rfl (s_iconst (z := 0) rfl) ?_
      refine pe_go (pc := 100) rfl (s_iald (n := 3) (f := row3 (T.xs p1) (T.ys p1) (T.hs p1)) (v := T.xs p1) hr1 (k := 0) (by omega) (by omega) (by decide) rfl) ?_
      refine pe_go (pc := 101) rfl (s_aload rfl) ?_
      refine pe_go (pc := 103) rfl (s_iconst (z := 0) rfl) ?_
      refine pe_go (pc := 104) rfl (s_iald (n := 3) (f := row3 (T.xs p2) (T.ys p2) (T.hs p2)) (v := T.xs p2) hr2 (k := 0) (by omega) (by omega) (by decide) rfl) ?_
      refine pe_go (pc := 105) rfl s_isub ?_
      refine pe_go (pc := 106) rfl (s_aload rfl) ?_
      refine pe_go (pc := 108) rfl (s_iconst (z := 0) rfl) ?_
      refine pe_go (pc := 109) rfl (s_iald (n := 3) (f := row3 (T.xs p1) (T.ys p1) (T.hs p1)) (v := T.xs p1) hr1 (k := 0) (by omega) (by omega) (by decide) rfl) ?_
      refine pe_go (pc := 110) rfl (s_aload rfl) ?_
      refine pe_go (pc := 112) rfl (s_iconst (z := 0) rfl) ?_
      refine pe_go (pc := 113) rfl (s_iald (n := 3) (f := row3 (T.xs p2) (T.ys p2) (T.hs p2)) (v := T.xs p2) hr2 (k := 0) (by omega) (by omega) (by decide) rfl) ?_
      refine pe_go (pc := 114) rfl s_isub ?_
      refine pe_go (pc := 115) rfl s_imul ?_
      refine pe_go (pc := 116) rfl (s_aload rfl) ?_
      refine pe_go (pc := 118) rfl (s_iconst (z := 1) rfl) ?_
      refine pe_go (pc := 119) rfl (s_iald (n := 3) (f := row3 (T.xs p1) (T.ys p1) (T.hs p1)) (v := T.ys p1) hr1 (k := 1) (by omega) (by omega) (by decide) rfl) ?_
      refine pe_go (pc := 120) rfl (s_aload rfl) ?_
      refine pe_go (pc := 122) rfl (s_iconst (z := 1) rfl) ?_
      refine pe_go (pc := 123) rfl (s_iald (n := 3) (f := row3 (T.xs p2) (T.ys p2) (T.hs p2)) (v := T.ys p2) hr2 (k := 1) (by omega) (by omega) (by decide) rfl) ?_
      refine pe_go (pc := 124) rfl s_isub ?_
      refine pe_go (pc := 125) rfl (s_aload rfl) ?_
      refine pe_go (pc := 127) rfl (s_iconst (z := 1) rfl) ?_
      refine pe_go (pc := 128) rfl (s_iald (n := 3) (f := row3 (T.xs p1) (T.ys p1) (T.hs p1)) (v := T.ys p1) hr1 (k := 1) (by omega) (by omega) (by decide) rfl) ?_
      refine pe_go (pc := 129) rfl (s_aload rfl) ?_
      refine pe_go (pc := 131) rfl (s_iconst (z := 1) rfl) ?_
      refine pe_go (pc := 132) rfl (s_iald (n := 3) (f := row3 (T.xs p2) (T.ys p2) (T.hs p2)) (v := T.ys p2) hr2 (k := 1) (by omega) (by omega) (by decide) rfl) ?_
      refine pe_go (pc := 133) rfl s_isub ?_
      refine pe_go (pc := 134) rfl s_imul ?_
      refine pe_go (pc := 135) rfl s_iadd ?_
      show qE 156 (136, _, [.int (iI (T.sq p1 p2))], w) Φ
      rw [g1]
      refine pe_go (pc := 136) rfl (s_i2l ⟨by omega, by omega⟩) ?_
      refine pe_go (pc := 137) rfl (s_lstore (lv' := [(19, .long (lI d1)), (18, .ref r2), (17, .ref r1), (16, .int (iI 1)), (13, .long (lI d0)), (15, .int (iI 0)), (12, .int (iI (i : Int))), (11, .int (iI at9)), (9, .long (lI be)), (7, .long (lI up)), (6, .int (iI bst)), (5, .int (iI (k : Int))), (4, .int (iI (c : Int))), (3, .ref t), (0, .ref b), (1, .ref a), (2, .int (iI (many : Int)))]) rfl) ?_
      refine pe_go (pc := 139) rfl (s_lload rfl) ?_
      refine pe_go (pc := 141) rfl (s_lload rfl) ?_
      refine pe_go rfl (s_lcmp_eq c1) ?_
      refine pe_go rfl (s_if_le_t ⟨by decide, by decide⟩ (by decide)) ?_
      refine pe_go (pc := 152) rfl (s_iload rfl) ?_
      refine pe_go (pc := 154) rfl (s_istore (lv' := [(15, .int (iI 0)), (19, .long (lI d1)), (18, .ref r2), (17, .ref r1), (16, .int (iI 1)), (13, .long (lI d0)), (12, .int (iI (i : Int))), (11, .int (iI at9)), (9, .long (lI be)), (7, .long (lI up)), (6, .int (iI bst)), (5, .int (iI (k : Int))), (4, .int (iI (c : Int))), (3, .ref t), (0, .ref b), (1, .ref a), (2, .int (iI (many : Int)))]) rfl) ?_
      refine pe_go (pc := 156) rfl (s_lload rfl) ?_
      refine pe_go (pc := 158) rfl (s_lload rfl) ?_
      refine pe_call rfl (s_invS rfl rfl rfl) (c_maxL (x := d0) (y := d1) ⟨by omega, by omega⟩ ⟨by omega, by omega⟩) ?_
      rw [zmL_ge (by omega)]
      refine pe_go (pc := 163) rfl (s_lstore (lv' := [(13, .long (lI d0)), (15, .int (iI 0)), (19, .long (lI d1)), (18, .ref r2), (17, .ref r1), (16, .int (iI 1)), (12, .int (iI (i : Int))), (11, .int (iI at9)), (9, .long (lI be)), (7, .long (lI up)), (6, .int (iI bst)), (5, .int (iI (k : Int))), (4, .int (iI (c : Int))), (3, .ref t), (0, .ref b), (1, .ref a), (2, .int (iI (many : Int)))]) rfl) ?_
      refine pe_go (pc := 165) rfl (s_iinc (x := 1) (y := 2) rfl (by omega) (lv' := [(16, .int (iI 2)), (13, .long (lI d0)), (15, .int (iI 0)), (19, .long (lI d1)), (18, .ref r2), (17, .ref r1), (12, .int (iI (i : Int))), (11, .int (iI at9)), (9, .long (lI be)), (7, .long (lI up)), (6, .int (iI bst)), (5, .int (iI (k : Int))), (4, .int (iI (c : Int))), (3, .ref t), (0, .ref b), (1, .ref a), (2, .int (iI (many : Int)))]) rfl) ?_
      refine pe_go (pc := 168) rfl s_goto ?_
      refine pe_go (pc := 57) rfl (s_iload rfl) ?_
      refine pe_go (pc := 59) rfl (s_iconst (z := 3) rfl) ?_
      refine pe_go rfl (s_icmp_ge_f ⟨by decide, by decide⟩ ⟨by decide, by decide⟩ (by decide)) ?_
      refine pe_go (pc := 63) rfl (s_aload_n rfl) ?_
      refine pe_go (pc := 64) rfl (s_getf (v := .ref pa) h0 rfl) ?_
      refine pe_go (pc := 67) rfl (s_aload_n rfl) ?_
      refine pe_go (pc := 68) rfl (s_iload rfl) ?_
      refine pe_go (pc := 70) rfl (s_iload rfl) ?_
      refine pe_call rfl (s_invV rfl (OB.obj hb hO) rfl rfl) (corner_at hb hO hN hN2 (t := i) (k := 2) hi (by decide) hc2) ?_
      refine pe_go (pc := 75) rfl (s_aald h1 (k := p2) (by omega) (by omega) er2) ?_
      refine pe_go (pc := 76) rfl (s_astore (lv' := [(17, .ref r2), (16, .int (iI 2)), (13, .long (lI d0)), (15, .int (iI 0)), (19, .long (lI d1)), (18, .ref r2), (12, .int (iI (i : Int))), (11, .int (iI at9)), (9, .long (lI be)), (7, .long (lI up)), (6, .int (iI bst)), (5, .int (iI (k : Int))), (4, .int (iI (c : Int))), (3, .ref t), (0, .ref b), (1, .ref a), (2, .int (iI (many : Int)))]) rfl) ?_
      refine pe_go (pc := 78) rfl (s_aload_n rfl) ?_
      refine pe_go (pc := 79) rfl (s_getf (v := .ref pa) h0 rfl) ?_
      refine pe_go (pc := 82) rfl (s_aload_n rfl) ?_
      refine pe_go (pc := 83) rfl (s_iload rfl) ?_
      refine pe_go (pc := 85) rfl (s_iload rfl) ?_
      refine pe_go (pc := 87) rfl (s_iconst (z := 1) rfl) ?_
      refine pe_go (q := (89, [(17, .ref r2), (16, .int (iI 2)), (13, .long (lI d0)), (15, .int (iI 0)), (19, .long (lI d1)), (18, .ref r2), (12, .int (iI (i : Int))), (11, .int (iI at9)), (9, .long (lI be)), (7, .long (lI up)), (6, .int (iI bst)), (5, .int (iI (k : Int))), (4, .int (iI (c : Int))), (3, .ref t), (0, .ref b), (1, .ref a), (2, .int (iI (many : Int)))], [.int (iI 3), .int (iI (i : Int)), .ref t, .ref pa], w)) rfl s_iadd ?_
      refine pe_go (pc := 89) rfl (s_iconst (z := 3) rfl) ?_
      refine pe_go (pc := 90) rfl (s_irem ⟨by decide, by decide⟩ ⟨by decide, by decide⟩ (by decide) (by decide) (show Int.tmod 3 3 = 0 from by decide)) ?_
      refine pe_call rfl (s_invV rfl (OB.obj hb hO) rfl rfl) (corner_at hb hO hN hN2 (t := i) (k := 0) hi (by decide) hc0) ?_
      refine pe_go (pc := 94) rfl (s_aald h1 (k := p0) (by omega) (by omega) er0) ?_
      refine pe_go (pc := 95) rfl (s_astore (lv' := [(18, .ref r0), (17, .ref r2), (16, .int (iI 2)), (13, .long (lI d0)), (15, .int (iI 0)), (19, .long (lI d1)), (12, .int (iI (i : Int))), (11, .int (iI at9)), (9, .long (lI be)), (7, .long (lI up)), (6, .int (iI bst)), (5, .int (iI (k : Int))), (4, .int (iI (c : Int))), (3, .ref t), (0, .ref b), (1, .ref a), (2, .int (iI (many : Int)))]) rfl) ?_
      refine pe_go (pc := 97) rfl (s_aload rfl) ?_
      refine pe_go (pc := 99) rfl (s_iconst (z := 0) rfl) ?_
      refine pe_go (pc := 100) rfl (s_iald (n := 3) (f := row3 (T.xs p2) (T.ys p2) (T.hs p2)) (v := T.xs p2) hr2 (k := 0) (by omega) (by omega) (by decide) rfl) ?_
      refine pe_go (pc := 101) rfl (s_aload rfl) ?_
      refine pe_go (pc := 103) rfl (s_iconst (z := 0) rfl) ?_
      refine pe_go (pc := 104) rfl (s_iald (n := 3) (f := row3 (T.xs p0) (T.ys p0) (T.hs p0)) (v := T.xs p0) hr0 (k := 0) (by omega) (by omega) (by decide) rfl) ?_
      refine pe_go (pc := 105) rfl s_isub ?_
      refine pe_go (pc := 106) rfl (s_aload rfl) ?_
      refine pe_go (pc := 108) rfl (s_iconst (z := 0) rfl) ?_
      refine pe_go (pc := 109) rfl (s_iald (n := 3) (f := row3 (T.xs p2) (T.ys p2) (T.hs p2)) (v := T.xs p2) hr2 (k := 0) (by omega) (by omega) (by decide) rfl) ?_
      refine pe_go (pc := 110) rfl (s_aload rfl) ?_
      refine pe_go (pc := 112) rfl (s_iconst (z := 0) rfl) ?_
      refine pe_go (pc := 113) rfl (s_iald (n := 3) (f := row3 (T.xs p0) (T.ys p0) (T.hs p0)) (v := T.xs p0) hr0 (k := 0) (by omega) (by omega) (by decide) rfl) ?_
      refine pe_go (pc := 114) rfl s_isub ?_
      refine pe_go (pc := 115) rfl s_imul ?_
      refine pe_go (pc := 116) rfl (s_aload rfl) ?_
      refine pe_go (pc := 118) rfl (s_iconst (z := 1) rfl) ?_
      refine pe_go (pc := 119) rfl (s_iald (n := 3) (f := row3 (T.xs p2) (T.ys p2) (T.hs p2)) (v := T.ys p2) hr2 (k := 1) (by omega) (by omega) (by decide) rfl) ?_
      refine pe_go (pc := 120) rfl (s_aload rfl) ?_
      refine pe_go (pc := 122) rfl (s_iconst (z := 1) rfl) ?_
      refine pe_go (pc := 123) rfl (s_iald (n := 3) (f := row3 (T.xs p0) (T.ys p0) (T.hs p0)) (v := T.ys p0) hr0 (k := 1) (by omega) (by omega) (by decide) rfl) ?_
      refine pe_go (pc := 124) rfl s_isub ?_
      refine pe_go (pc := 125) rfl (s_aload rfl) ?_
      refine pe_go (pc := 127) rfl (s_iconst (z := 1) rfl) ?_
      refine pe_go (pc := 128) rfl (s_iald (n := 3) (f := row3 (T.xs p2) (T.ys p2) (T.hs p2)) (v := T.ys p2) hr2 (k := 1) (by omega) (by omega) (by decide) rfl) ?_
      refine pe_go (pc := 129) rfl (s_aload rfl) ?_
      refine pe_go (pc := 131) rfl (s_iconst (z := 1) rfl) ?_
      refine pe_go (pc := 132) rfl (s_iald (n := 3) (f := row3 (T.xs p0) (T.ys p0) (T.hs p0)) (v := T.ys p0) hr0 (k := 1) (by omega) (by omega) (by decide) rfl) ?_
      refine pe_go (pc := 133) rfl s_isub ?_
      refine pe_go (pc := 134) rfl s_imul ?_
      refine pe_go (pc := 135) rfl s_iadd ?_
      show qE 156 (136, _, [.int (iI (T.sq p2 p0))], w) Φ
      rw [g2]
      refine pe_go (pc := 136) rfl (s_i2l ⟨by omega, by omega⟩) ?_
      refine pe_go (pc := 137) rfl (s_lstore (lv' := [(19, .long (lI d2)), (18, .ref r0), (17, .ref r2), (16, .int (iI 2)), (13, .long (lI d0)), (15, .int (iI 0)), (12, .int (iI (i : Int))), (11, .int (iI at9)), (9, .long (lI be)), (7, .long (lI up)), (6, .int (iI bst)), (5, .int (iI (k : Int))), (4, .int (iI (c : Int))), (3, .ref t), (0, .ref b), (1, .ref a), (2, .int (iI (many : Int)))]) rfl) ?_
      refine pe_go (pc := 139) rfl (s_lload rfl) ?_
      refine pe_go (pc := 141) rfl (s_lload rfl) ?_
      refine pe_go rfl (s_lcmp_lt ⟨by omega, by omega⟩ ⟨by omega, by omega⟩ c2) ?_
      refine pe_go rfl (s_if_le_t ⟨by decide, by decide⟩ (by decide)) ?_
      refine pe_go (pc := 152) rfl (s_iload rfl) ?_
      refine pe_go (pc := 154) rfl (s_istore (lv' := [(15, .int (iI 0)), (19, .long (lI d2)), (18, .ref r0), (17, .ref r2), (16, .int (iI 2)), (13, .long (lI d0)), (12, .int (iI (i : Int))), (11, .int (iI at9)), (9, .long (lI be)), (7, .long (lI up)), (6, .int (iI bst)), (5, .int (iI (k : Int))), (4, .int (iI (c : Int))), (3, .ref t), (0, .ref b), (1, .ref a), (2, .int (iI (many : Int)))]) rfl) ?_
      refine pe_go (pc := 156) rfl (s_lload rfl) ?_
      refine pe_go (pc := 158) rfl (s_lload rfl) ?_
      refine pe_call rfl (s_invS rfl rfl rfl) (c_maxL (x := d0) (y := d2) ⟨by omega, by omega⟩ ⟨by omega, by omega⟩) ?_
      rw [zmL_ge (by omega)]
      refine pe_go (pc := 163) rfl (s_lstore (lv' := [(13, .long (lI d0)), (15, .int (iI 0)), (19, .long (lI d2)), (18, .ref r0), (17, .ref r2), (16, .int (iI 2)), (12, .int (iI (i : Int))), (11, .int (iI at9)), (9, .long (lI be)), (7, .long (lI up)), (6, .int (iI bst)), (5, .int (iI (k : Int))), (4, .int (iI (c : Int))), (3, .ref t), (0, .ref b), (1, .ref a), (2, .int (iI (many : Int)))]) rfl) ?_
      refine pe_go (pc := 165) rfl (s_iinc (x := 2) (y := 3) rfl (by omega) (lv' := [(16, .int (iI 3)), (13, .long (lI d0)), (15, .int (iI 0)), (19, .long (lI d2)), (18, .ref r0), (17, .ref r2), (12, .int (iI (i : Int))), (11, .int (iI at9)), (9, .long (lI be)), (7, .long (lI up)), (6, .int (iI bst)), (5, .int (iI (k : Int))), (4, .int (iI (c : Int))), (3, .ref t), (0, .ref b), (1, .ref a), (2, .int (iI (many : Int)))]) rfl) ?_
      refine pe_go (pc := 168) rfl s_goto ?_
      refine pe_go (pc := 57) rfl (s_iload rfl) ?_
      refine pe_go (pc := 59) rfl (s_iconst (z := 3) rfl) ?_
      refine pe_go rfl (s_icmp_ge_t ⟨by decide, by decide⟩ ⟨by decide, by decide⟩ (by decide)) ?_
      refine pe_few (lv := [(15, .int (iI ((0 : Nat) : Int))), (13, .long (lI d0)), (12, .int (iI (i : Int))), (11, .int (iI at9)), (9, .long (lI be)), (7, .long (lI up)), (6, .int (iI bst)), (5, .int (iI (k : Int))), (4, .int (iI (c : Int))), (3, .ref t), (0, .ref b), (1, .ref a), (2, .int (iI (many : Int)))]) rfl rfl (by intro q hq; simp only [List.mem_cons, List.not_mem_nil, or_false] at hq; rcases hq with rfl | rfl | rfl | rfl | rfl | rfl | rfl | rfl | rfl | rfl | rfl | rfl | rfl <;> rfl) ?_
      exact KK d0 0 (by show _ = T.qs i (T.lgs i); rw [hlg]; (repeat' split) <;> first | omega | (first | rw [hq0] | rw [hq1] | rw [hq2]) <;> omega) (by rw [hlg]; (repeat' split) <;> omega)
    · skip
      refine pe_go (pc := 48) rfl s_lconst0 ?_
      refine pe_go (pc := 49) rfl (s_lstore (lv' := [(13, .long (lI 0)), (12, .int (iI (i : Int))), (11, .int (iI at9)), (9, .long (lI be)), (7, .long (lI up)), (6, .int (iI bst)), (5, .int (iI (k : Int))), (4, .int (iI (c : Int))), (3, .ref t), (0, .ref b), (1, .ref a), (2, .int (iI (many : Int)))]) rfl) ?_
      refine pe_go (pc := 51) rfl (s_iconst (z := 0) rfl) ?_
      refine pe_go (pc := 52) rfl (s_istore (lv' := [(15, .int (iI 0)), (13, .long (lI 0)), (12, .int (iI (i : Int))), (11, .int (iI at9)), (9, .long (lI be)), (7, .long (lI up)), (6, .int (iI bst)), (5, .int (iI (k : Int))), (4, .int (iI (c : Int))), (3, .ref t), (0, .ref b), (1, .ref a), (2, .int (iI (many : Int)))]) rfl) ?_
      refine pe_go (pc := 54) rfl (s_iconst (z := 0) rfl) ?_
      refine pe_go (pc := 55) rfl (s_istore (lv' := [(16, .int (iI 0)), (15, .int (iI 0)), (13, .long (lI 0)), (12, .int (iI (i : Int))), (11, .int (iI at9)), (9, .long (lI be)), (7, .long (lI up)), (6, .int (iI bst)), (5, .int (iI (k : Int))), (4, .int (iI (c : Int))), (3, .ref t), (0, .ref b), (1, .ref a), (2, .int (iI (many : Int)))]) rfl) ?_
      refine pe_go (pc := 57) rfl (s_iload rfl) ?_
      refine pe_go (pc := 59) rfl (s_iconst (z := 3) rfl) ?_
      refine pe_go rfl (s_icmp_ge_f ⟨by decide, by decide⟩ ⟨by decide, by decide⟩ (by decide)) ?_
      refine pe_go (pc := 63) rfl (s_aload_n rfl) ?_
      refine pe_go (pc := 64) rfl (s_getf (v := .ref pa) h0 rfl) ?_
      refine pe_go (pc := 67) rfl (s_aload_n rfl) ?_
      refine pe_go (pc := 68) rfl (s_iload rfl) ?_
      refine pe_go (pc := 70) rfl (s_iload rfl) ?_
      refine pe_call rfl (s_invV rfl (OB.obj hb hO) rfl rfl) (corner_at hb hO hN hN2 (t := i) (k := 0) hi (by decide) hc0) ?_
      refine pe_go (pc := 75) rfl (s_aald h1 (k := p0) (by omega) (by omega) er0) ?_
      refine pe_go (pc := 76) rfl (s_astore (lv' := [(17, .ref r0), (16, .int (iI 0)), (15, .int (iI 0)), (13, .long (lI 0)), (12, .int (iI (i : Int))), (11, .int (iI at9)), (9, .long (lI be)), (7, .long (lI up)), (6, .int (iI bst)), (5, .int (iI (k : Int))), (4, .int (iI (c : Int))), (3, .ref t), (0, .ref b), (1, .ref a), (2, .int (iI (many : Int)))]) rfl) ?_
      refine pe_go (pc := 78) rfl (s_aload_n rfl) ?_
      refine pe_go (pc := 79) rfl (s_getf (v := .ref pa) h0 rfl) ?_
      refine pe_go (pc := 82) rfl (s_aload_n rfl) ?_
      refine pe_go (pc := 83) rfl (s_iload rfl) ?_
      refine pe_go (pc := 85) rfl (s_iload rfl) ?_
      refine pe_go (pc := 87) rfl (s_iconst (z := 1) rfl) ?_
      refine pe_go (q := (89, [(17, .ref r0), (16, .int (iI 0)), (15, .int (iI 0)), (13, .long (lI 0)), (12, .int (iI (i : Int))), (11, .int (iI at9)), (9, .long (lI be)), (7, .long (lI up)), (6, .int (iI bst)), (5, .int (iI (k : Int))), (4, .int (iI (c : Int))), (3, .ref t), (0, .ref b), (1, .ref a), (2, .int (iI (many : Int)))], [.int (iI 1), .int (iI (i : Int)), .ref t, .ref pa], w)) rfl s_iadd ?_
      refine pe_go (pc := 89) rfl (s_iconst (z := 3) rfl) ?_
      refine pe_go (pc := 90) rfl (s_irem ⟨by decide, by decide⟩ ⟨by decide, by decide⟩ (by decide) (by decide) (show Int.tmod 1 3 = 1 from by decide)) ?_
      refine pe_call rfl (s_invV rfl (OB.obj hb hO) rfl rfl) (corner_at hb hO hN hN2 (t := i) (k := 1) hi (by decide) hc1) ?_
      refine pe_go (pc := 94) rfl (s_aald h1 (k := p1) (by omega) (by omega) er1) ?_
      refine pe_go (pc := 95) rfl (s_astore (lv' := [(18, .ref r1), (17, .ref r0), (16, .int (iI 0)), (15, .int (iI 0)), (13, .long (lI 0)), (12, .int (iI (i : Int))), (11, .int (iI at9)), (9, .long (lI be)), (7, .long (lI up)), (6, .int (iI bst)), (5, .int (iI (k : Int))), (4, .int (iI (c : Int))), (3, .ref t), (0, .ref b), (1, .ref a), (2, .int (iI (many : Int)))]) rfl) ?_
      refine pe_go (pc := 97) rfl (s_aload rfl) ?_
      refine pe_go (pc := 99) rfl (s_iconst (z := 0) rfl) ?_
      refine pe_go (pc := 100) rfl (s_iald (n := 3) (f := row3 (T.xs p0) (T.ys p0) (T.hs p0)) (v := T.xs p0) hr0 (k := 0) (by omega) (by omega) (by decide) rfl) ?_
      refine pe_go (pc := 101) rfl (s_aload rfl) ?_
      refine pe_go (pc := 103) rfl (s_iconst (z := 0) rfl) ?_
      refine pe_go (pc := 104) rfl (s_iald (n := 3) (f := row3 (T.xs p1) (T.ys p1) (T.hs p1)) (v := T.xs p1) hr1 (k := 0) (by omega) (by omega) (by decide) rfl) ?_
      refine pe_go (pc := 105) rfl s_isub ?_
      refine pe_go (pc := 106) rfl (s_aload rfl) ?_
      refine pe_go (pc := 108) rfl (s_iconst (z := 0) rfl) ?_
      refine pe_go (pc := 109) rfl (s_iald (n := 3) (f := row3 (T.xs p0) (T.ys p0) (T.hs p0)) (v := T.xs p0) hr0 (k := 0) (by omega) (by omega) (by decide) rfl) ?_
      refine pe_go (pc := 110) rfl (s_aload rfl) ?_
      refine pe_go (pc := 112) rfl (s_iconst (z := 0) rfl) ?_
      refine pe_go (pc := 113) rfl (s_iald (n := 3) (f := row3 (T.xs p1) (T.ys p1) (T.hs p1)) (v := T.xs p1) hr1 (k := 0) (by omega) (by omega) (by decide) rfl) ?_
      refine pe_go (pc := 114) rfl s_isub ?_
      refine pe_go (pc := 115) rfl s_imul ?_
      refine pe_go (pc := 116) rfl (s_aload rfl) ?_
      refine pe_go (pc := 118) rfl (s_iconst (z := 1) rfl) ?_
      refine pe_go (pc := 119) rfl (s_iald (n := 3) (f := row3 (T.xs p0) (T.ys p0) (T.hs p0)) (v := T.ys p0) hr0 (k := 1) (by omega) (by omega) (by decide) rfl) ?_
      refine pe_go (pc := 120) rfl (s_aload rfl) ?_
      refine pe_go (pc := 122) rfl (s_iconst (z := 1) rfl) ?_
      refine pe_go (pc := 123) rfl (s_iald (n := 3) (f := row3 (T.xs p1) (T.ys p1) (T.hs p1)) (v := T.ys p1) hr1 (k := 1) (by omega) (by omega) (by decide) rfl) ?_
      refine pe_go (pc := 124) rfl s_isub ?_
      refine pe_go (pc := 125) rfl (s_aload rfl) ?_
      refine pe_go (pc := 127) rfl (s_iconst (z := 1) rfl) ?_
      refine pe_go (pc := 128) rfl (s_iald (n := 3) (f := row3 (T.xs p0) (T.ys p0) (T.hs p0)) (v := T.ys p0) hr0 (k := 1) (by omega) (by omega) (by decide) rfl) ?_
      refine pe_go (pc := 129) rfl (s_aload rfl) ?_
      refine pe_go (pc := 131) rfl (s_iconst (z := 1) rfl) ?_
      refine pe_go (pc := 132) rfl (s_iald (n := 3) (f := row3 (T.xs p1) (T.ys p1) (T.hs p1)) (v := T.ys p1) hr1 (k := 1) (by omega) (by omega) (by decide) rfl) ?_
      refine pe_go (pc := 133) rfl s_isub ?_
      refine pe_go (pc := 134) rfl s_imul ?_
      refine pe_go (pc := 135) rfl s_iadd ?_
      show qE 156 (136, _, [.int (iI (T.sq p0 p1))], w) Φ
      rw [g0]
      refine pe_go (pc := 136) rfl (s_i2l ⟨by omega, by omega⟩) ?_
      refine pe_go (pc := 137) rfl (s_lstore (lv' := [(19, .long (lI d0)), (18, .ref r1), (17, .ref r0), (16, .int (iI 0)), (15, .int (iI 0)), (13, .long (lI 0)), (12, .int (iI (i : Int))), (11, .int (iI at9)), (9, .long (lI be)), (7, .long (lI up)), (6, .int (iI bst)), (5, .int (iI (k : Int))), (4, .int (iI (c : Int))), (3, .ref t), (0, .ref b), (1, .ref a), (2, .int (iI (many : Int)))]) rfl) ?_
      refine pe_go (pc := 139) rfl (s_lload rfl) ?_
      refine pe_go (pc := 141) rfl (s_lload rfl) ?_
      refine pe_go rfl (s_lcmp_gt ⟨by omega, by omega⟩ ⟨by omega, by omega⟩ (by omega)) ?_
      refine pe_go rfl (s_if_le_f ⟨by decide, by decide⟩ (by decide)) ?_
      refine pe_go (pc := 147) rfl (s_iload rfl) ?_
      refine pe_go (pc := 149) rfl s_goto ?_
      refine pe_go (pc := 154) rfl (s_istore (lv' := [(15, .int (iI 0)), (19, .long (lI d0)), (18, .ref r1), (17, .ref r0), (16, .int (iI 0)), (13, .long (lI 0)), (12, .int (iI (i : Int))), (11, .int (iI at9)), (9, .long (lI be)), (7, .long (lI up)), (6, .int (iI bst)), (5, .int (iI (k : Int))), (4, .int (iI (c : Int))), (3, .ref t), (0, .ref b), (1, .ref a), (2, .int (iI (many : Int)))]) rfl) ?_
      refine pe_go (pc := 156) rfl (s_lload rfl) ?_
      refine pe_go (pc := 158) rfl (s_lload rfl) ?_
      refine pe_call rfl (s_invS rfl rfl rfl) (c_maxL (x := 0) (y := d0) ⟨by omega, by omega⟩ ⟨by omega, by omega⟩) ?_
      rw [zmL_lt (by omega)]
      refine pe_go (pc := 163) rfl (s_lstore (lv' := [(13, .long (lI d0)), (15, .int (iI 0)), (19, .long (lI d0)), (18, .ref r1), (17, .ref r0), (16, .int (iI 0)), (12, .int (iI (i : Int))), (11, .int (iI at9)), (9, .long (lI be)), (7, .long (lI up)), (6, .int (iI bst)), (5, .int (iI (k : Int))), (4, .int (iI (c : Int))), (3, .ref t), (0, .ref b), (1, .ref a), (2, .int (iI (many : Int)))]) rfl) ?_
      refine pe_go (pc := 165) rfl (s_iinc (x := 0) (y := 1) rfl (by omega) (lv' := [(16, .int (iI 1)), (13, .long (lI d0)), (15, .int (iI 0)), (19, .long (lI d0)), (18, .ref r1), (17, .ref r0), (12, .int (iI (i : Int))), (11, .int (iI at9)), (9, .long (lI be)), (7, .long (lI up)), (6, .int (iI bst)), (5, .int (iI (k : Int))), (4, .int (iI (c : Int))), (3, .ref t), (0, .ref b), (1, .ref a), (2, .int (iI (many : Int)))]) rfl) ?_
      refine pe_go (pc := 168) rfl s_goto ?_
      refine pe_go (pc := 57) rfl (s_iload rfl) ?_
      refine pe_go (pc := 59) rfl (s_iconst (z := 3) rfl) ?_
      refine pe_go rfl (s_icmp_ge_f ⟨by decide, by decide⟩ ⟨by decide, by decide⟩ (by decide)) ?_
      refine pe_go (pc := 63) rfl (s_aload_n rfl) ?_
      refine pe_go (pc := 64) rfl (s_getf (v := .ref pa) h0 rfl) ?_
      refine pe_go (pc := 67) rfl (s_aload_n rfl) ?_
      refine pe_go (pc := 68) rfl (s_iload rfl) ?_
      refine pe_go (pc := 70) rfl (s_iload rfl) ?_
      refine pe_call rfl (s_invV rfl (OB.obj hb hO) rfl rfl) (corner_at hb hO hN hN2 (t := i) (k := 1) hi (by decide) hc1) ?_
      refine pe_go (pc := 75) rfl (s_aald h1 (k := p1) (by omega) (by omega) er1) ?_
      refine pe_go (pc := 76) rfl (s_astore (lv' := [(17, .ref r1), (16, .int (iI 1)), (13, .long (lI d0)), (15, .int (iI 0)), (19, .long (lI d0)), (18, .ref r1), (12, .int (iI (i : Int))), (11, .int (iI at9)), (9, .long (lI be)), (7, .long (lI up)), (6, .int (iI bst)), (5, .int (iI (k : Int))), (4, .int (iI (c : Int))), (3, .ref t), (0, .ref b), (1, .ref a), (2, .int (iI (many : Int)))]) rfl) ?_
      refine pe_go (pc := 78) rfl (s_aload_n rfl) ?_
      refine pe_go (pc := 79) rfl (s_getf (v := .ref pa) h0 rfl) ?_
      refine pe_go (pc := 82) rfl (s_aload_n rfl) ?_
      refine pe_go (pc := 83) rfl (s_iload rfl) ?_
      refine pe_go (pc := 85) rfl (s_iload rfl) ?_
      refine pe_go (pc := 87) rfl (s_iconst (z := 1) rfl) ?_
      refine pe_go (q := (89, [(17, .ref r1), (16, .int (iI 1)), (13, .long (lI d0)), (15, .int (iI 0)), (19, .long (lI d0)), (18, .ref r1), (12, .int (iI (i : Int))), (11, .int (iI at9)), (9, .long (lI be)), (7, .long (lI up)), (6, .int (iI bst)), (5, .int (iI (k : Int))), (4, .int (iI (c : Int))), (3, .ref t), (0, .ref b), (1, .ref a), (2, .int (iI (many : Int)))], [.int (iI 2), .int (iI (i : Int)), .ref t, .ref pa], w)) rfl s_iadd ?_
      refine pe_go (pc := 89) rfl (s_iconst (z := 3) rfl) ?_
      refine pe_go (pc := 90) rfl (s_irem ⟨by decide, by decide⟩ ⟨by decide, by decide⟩ (by decide) (by decide) (show Int.tmod 2 3 = 2 from by decide)) ?_
      refine pe_call rfl (s_invV rfl (OB.obj hb hO) rfl rfl) (corner_at hb hO hN hN2 (t := i) (k := 2) hi (by decide) hc2) ?_
      refine pe_go (pc := 94) rfl (s_aald h1 (k := p2) (by omega) (by omega) er2) ?_
      refine pe_go (pc := 95) rfl (s_astore (lv' := [(18, .ref r2), (17, .ref r1), (16, .int (iI 1)), (13, .long (lI d0)), (15, .int (iI 0)), (19, .long (lI d0)), (12, .int (iI (i : Int))), (11, .int (iI at9)), (9, .long (lI be)), (7, .long (lI up)), (6, .int (iI bst)), (5, .int (iI (k : Int))), (4, .int (iI (c : Int))), (3, .ref t), (0, .ref b), (1, .ref a), (2, .int (iI (many : Int)))]) rfl) ?_
      refine pe_go (pc := 97) rfl (s_aload rfl) ?_
      refine pe_go (pc := 99) rfl (s_iconst (z := 0) rfl) ?_
      refine pe_go (pc := 100) rfl (s_iald (n := 3) (f := row3 (T.xs p1) (T.ys p1) (T.hs p1)) (v := T.xs p1) hr1 (k := 0) (by omega) (by omega) (by decide) rfl) ?_
      refine pe_go (pc := 101) rfl (s_aload rfl) ?_
      refine pe_go (pc := 103) rfl (s_iconst (z := 0) rfl) ?_
      refine pe_go (pc := 104) rfl (s_iald (n := 3) (f := row3 (T.xs p2) (T.ys p2) (T.hs p2)) (v := T.xs p2) hr2 (k := 0) (by omega) (by omega) (by decide) rfl) ?_
      refine pe_go (pc := 105) rfl s_isub ?_
      refine pe_go (pc := 106) rfl (s_aload rfl) ?_
      refine pe_go (pc := 108) rfl (s_iconst (z := 0) rfl) ?_
      refine pe_go (pc := 109) rfl (s_iald (n := 3) (f := row3 (T.xs p1) (T.ys p1) (T.hs p1)) (v := T.xs p1) hr1 (k := 0) (by omega) (by omega) (by decide) rfl) ?_
      refine pe_go (pc := 110) rfl (s_aload rfl) ?_
      refine pe_go (pc := 112) rfl (s_iconst (z := 0) rfl) ?_
      refine pe_go (pc := 113) rfl (s_iald (n := 3) (f := row3 (T.xs p2) (T.ys p2) (T.hs p2)) (v := T.xs p2) hr2 (k := 0) (by omega) (by omega) (by decide) rfl) ?_
      refine pe_go (pc := 114) rfl s_isub ?_
      refine pe_go (pc := 115) rfl s_imul ?_
      refine pe_go (pc := 116) rfl (s_aload rfl) ?_
      refine pe_go (pc := 118) rfl (s_iconst (z := 1) rfl) ?_
      refine pe_go (pc := 119) rfl (s_iald (n := 3) (f := row3 (T.xs p1) (T.ys p1) (T.hs p1)) (v := T.ys p1) hr1 (k := 1) (by omega) (by omega) (by decide) rfl) ?_
      refine pe_go (pc := 120) rfl (s_aload rfl) ?_
      refine pe_go (pc := 122) rfl (s_iconst (z := 1) rfl) ?_
      refine pe_go (pc := 123) rfl (s_iald (n := 3) (f := row3 (T.xs p2) (T.ys p2) (T.hs p2)) (v := T.ys p2) hr2 (k := 1) (by omega) (by omega) (by decide) rfl) ?_
      refine pe_go (pc := 124) rfl s_isub ?_
      refine pe_go (pc := 125) rfl (s_aload rfl) ?_
      refine pe_go (pc := 127) rfl (s_iconst (z := 1) rfl) ?_
      refine pe_go (pc := 128) rfl (s_iald (n := 3) (f := row3 (T.xs p1) (T.ys p1) (T.hs p1)) (v := T.ys p1) hr1 (k := 1) (by omega) (by omega) (by decide) rfl) ?_
      refine pe_go (pc := 129) rfl (s_aload rfl) ?_
      refine pe_go (pc := 131) rfl (s_iconst (z := 1) rfl) ?_
      refine pe_go (pc := 132) rfl (s_iald (n := 3) (f := row3 (T.xs p2) (T.ys p2) (T.hs p2)) (v := T.ys p2) hr2 (k := 1) (by omega) (by omega) (by decide) rfl) ?_
      refine pe_go (pc := 133) rfl s_isub ?_
      refine pe_go (pc := 134) rfl s_imul ?_
      refine pe_go (pc := 135) rfl s_iadd ?_
      show qE 156 (136, _, [.int (iI (T.sq p1 p2))], w) Φ
      rw [g1]
      refine pe_go (pc := 136) rfl (s_i2l ⟨by omega, by omega⟩) ?_
      refine pe_go (pc := 137) rfl (s_lstore (lv' := [(19, .long (lI d1)), (18, .ref r2), (17, .ref r1), (16, .int (iI 1)), (13, .long (lI d0)), (15, .int (iI 0)), (12, .int (iI (i : Int))), (11, .int (iI at9)), (9, .long (lI be)), (7, .long (lI up)), (6, .int (iI bst)), (5, .int (iI (k : Int))), (4, .int (iI (c : Int))), (3, .ref t), (0, .ref b), (1, .ref a), (2, .int (iI (many : Int)))]) rfl) ?_
      refine pe_go (pc := 139) rfl (s_lload rfl) ?_
      refine pe_go (pc := 141) rfl (s_lload rfl) ?_
      refine pe_go rfl (s_lcmp_eq c1) ?_
      refine pe_go rfl (s_if_le_t ⟨by decide, by decide⟩ (by decide)) ?_
      refine pe_go (pc := 152) rfl (s_iload rfl) ?_
      refine pe_go (pc := 154) rfl (s_istore (lv' := [(15, .int (iI 0)), (19, .long (lI d1)), (18, .ref r2), (17, .ref r1), (16, .int (iI 1)), (13, .long (lI d0)), (12, .int (iI (i : Int))), (11, .int (iI at9)), (9, .long (lI be)), (7, .long (lI up)), (6, .int (iI bst)), (5, .int (iI (k : Int))), (4, .int (iI (c : Int))), (3, .ref t), (0, .ref b), (1, .ref a), (2, .int (iI (many : Int)))]) rfl) ?_
      refine pe_go (pc := 156) rfl (s_lload rfl) ?_
      refine pe_go (pc := 158) rfl (s_lload rfl) ?_
      refine pe_call rfl (s_invS rfl rfl rfl) (c_maxL (x := d0) (y := d1) ⟨by omega, by omega⟩ ⟨by omega, by omega⟩) ?_
      rw [zmL_ge (by omega)]
      refine pe_go (pc := 163) rfl (s_lstore (lv' := [(13, .long (lI d0)), (15, .int (iI 0)), (19, .long (lI d1)), (18, .ref r2), (17, .ref r1), (16, .int (iI 1)), (12, .int (iI (i : Int))), (11, .int (iI at9)), (9, .long (lI be)), (7, .long (lI up)), (6, .int (iI bst)), (5, .int (iI (k : Int))), (4, .int (iI (c : Int))), (3, .ref t), (0, .ref b), (1, .ref a), (2, .int (iI (many : Int)))]) rfl) ?_
      refine pe_go (pc := 165) rfl (s_iinc (x := 1) (y := 2) rfl (by omega) (lv' := [(16, .int (iI 2)), (13, .long (lI d0)), (15, .int (iI 0)), (19, .long (lI d1)), (18, .ref r2), (17, .ref r1), (12, .int (iI (i : Int))), (11, .int (iI at9)), (9, .long (lI be)), (7, .long (lI up)), (6, .int (iI bst)), (5, .int (iI (k : Int))), (4, .int (iI (c : Int))), (3, .ref t), (0, .ref b), (1, .ref a), (2, .int (iI (many : Int)))]) rfl) ?_
      refine pe_go (pc := 168) rfl s_goto ?_
      refine pe_go (pc := 57) rfl (s_iload rfl) ?_
      refine pe_go (pc := 59) rfl (s_iconst (z := 3) rfl) ?_
      refine pe_go rfl (s_icmp_ge_f ⟨by decide, by decide⟩ ⟨by decide, by decide⟩ (by decide)) ?_
      refine pe_go (pc := 63) rfl (s_aload_n rfl) ?_
      refine pe_go (pc := 64) rfl (s_getf (v := .ref pa) h0 rfl) ?_
      refine pe_go (pc := 67) rfl (s_aload_n rfl) ?_
      refine pe_go (pc := 68) rfl (s_iload rfl) ?_
      refine pe_go (pc := 70) rfl (s_iload rfl) ?_
      refine pe_call rfl (s_invV rfl (OB.obj hb hO) rfl rfl) (corner_at hb hO hN hN2 (t := i) (k := 2) hi (by decide) hc2) ?_
      refine pe_go (pc := 75) rfl (s_aald h1 (k := p2) (by omega) (by omega) er2) ?_
      refine pe_go (pc := 76) rfl (s_astore (lv' := [(17, .ref r2), (16, .int (iI 2)), (13, .long (lI d0)), (15, .int (iI 0)), (19, .long (lI d1)), (18, .ref r2), (12, .int (iI (i : Int))), (11, .int (iI at9)), (9, .long (lI be)), (7, .long (lI up)), (6, .int (iI bst)), (5, .int (iI (k : Int))), (4, .int (iI (c : Int))), (3, .ref t), (0, .ref b), (1, .ref a), (2, .int (iI (many : Int)))]) rfl) ?_
      refine pe_go (pc := 78) rfl (s_aload_n rfl) ?_
      refine pe_go (pc := 79) rfl (s_getf (v := .ref pa) h0 rfl) ?_
      refine pe_go (pc := 82) rfl (s_aload_n rfl) ?_
      refine pe_go (pc := 83) rfl (s_iload rfl) ?_
      refine pe_go (pc := 85) rfl (s_iload rfl) ?_
      refine pe_go (pc := 87) rfl (s_iconst (z := 1) rfl) ?_
      refine pe_go (q := (89, [(17, .ref r2), (16, .int (iI 2)), (13, .long (lI d0)), (15, .int (iI 0)), (19, .long (lI d1)), (18, .ref r2), (12, .int (iI (i : Int))), (11, .int (iI at9)), (9, .long (lI be)), (7, .long (lI up)), (6, .int (iI bst)), (5, .int (iI (k : Int))), (4, .int (iI (c : Int))), (3, .ref t), (0, .ref b), (1, .ref a), (2, .int (iI (many : Int)))], [.int (iI 3), .int (iI (i : Int)), .ref t, .ref pa], w)) rfl s_iadd ?_
      refine pe_go (pc := 89) rfl (s_iconst (z := 3) rfl) ?_
      refine pe_go (pc := 90) rfl (s_irem ⟨by decide, by decide⟩ ⟨by decide, by decide⟩ (by decide) (by decide) (show Int.tmod 3 3 = 0 from by decide)) ?_
      refine pe_call rfl (s_invV rfl (OB.obj hb hO) rfl rfl) (corner_at hb hO hN hN2 (t := i) (k := 0) hi (by decide) hc0) ?_
      refine pe_go (pc := 94) rfl (s_aald h1 (k := p0) (by omega) (by omega) er0) ?_
      refine pe_go (pc := 95) rfl (s_astore (lv' := [(18, .ref r0), (17, .ref r2), (16, .int (iI 2)), (13, .long (lI d0)), (15, .int (iI 0)), (19, .long (lI d1)), (12, .int (iI (i : Int))), (11, .int (iI at9)), (9, .long (lI be)), (7, .long (lI up)), (6, .int (iI bst)), (5, .int (iI (k : Int))), (4, .int (iI (c : Int))), (3, .ref t), (0, .ref b), (1, .ref a), (2, .int (iI (many : Int)))]) rfl) ?_
      refine pe_go (pc := 97) rfl (s_aload rfl) ?_
      refine pe_go (pc := 99) rfl (s_iconst (z := 0) rfl) ?_
      refine pe_go (pc := 100) rfl (s_iald (n := 3) (f := row3 (T.xs p2) (T.ys p2) (T.hs p2)) (v := T.xs p2) hr2 (k := 0) (by omega) (by omega) (by decide) rfl) ?_
      refine pe_go (pc := 101) rfl (s_aload rfl) ?_
      refine pe_go (pc := 103) rfl (s_iconst (z := 0) rfl) ?_
      refine pe_go (pc := 104) rfl (s_iald (n := 3) (f := row3 (T.xs p0) (T.ys p0) (T.hs p0)) (v := T.xs p0) hr0 (k := 0) (by omega) (by omega) (by decide) rfl) ?_
      refine pe_go (pc := 105) rfl s_isub ?_
      refine pe_go (pc := 106) rfl (s_aload rfl) ?_
      refine pe_go (pc := 108) rfl (s_iconst (z := 0) rfl) ?_
      refine pe_go (pc := 109) rfl (s_iald (n := 3) (f := row3 (T.xs p2) (T.ys p2) (T.hs p2)) (v := T.xs p2) hr2 (k := 0) (by omega) (by omega) (by decide) rfl) ?_
      refine pe_go (pc := 110) rfl (s_aload rfl) ?_
      refine pe_go (pc := 112) rfl (s_iconst (z := 0) rfl) ?_
      refine pe_go (pc := 113) rfl (s_iald (n := 3) (f := row3 (T.xs p0) (T.ys p0) (T.hs p0)) (v := T.xs p0) hr0 (k := 0) (by omega) (by omega) (by decide) rfl) ?_
      refine pe_go (pc := 114) rfl s_isub ?_
      refine pe_go (pc := 115) rfl s_imul ?_
      refine pe_go (pc := 116) rfl (s_aload rfl) ?_
      refine pe_go (pc := 118) rfl (s_iconst (z := 1) rfl) ?_
      refine pe_go (pc := 119) rfl (s_iald (n := 3) (f := row3 (T.xs p2) (T.ys p2) (T.hs p2)) (v := T.ys p2) hr2 (k := 1) (by omega) (by omega) (by decide) rfl) ?_
      refine pe_go (pc := 120) rfl (s_aload rfl) ?_
      refine pe_go (pc := 122) rfl (s_iconst (z := 1) rfl) ?_
      refine pe_go (pc := 123) rfl (s_iald (n := 3) (f := row3 (T.xs p0) (T.ys p0) (T.hs p0)) (v := T.ys p0) hr0 (k := 1) (by omega) (by omega) (by decide) rfl) ?_
      refine pe_go (pc := 124) rfl s_isub ?_
      refine pe_go (pc := 125) rfl (s_aload rfl) ?_
      refine pe_go (pc := 127) rfl (s_iconst (z := 1) rfl) ?_
      refine pe_go (pc := 128) rfl (s_iald (n := 3) (f := row3 (T.xs p2) (T.ys p2) (T.hs p2)) (v := T.ys p2) hr2 (k := 1) (by omega) (by omega) (by decide) rfl) ?_
      refine pe_go (pc := 129) rfl (s_aload rfl) ?_
      refine pe_go (pc := 131) rfl (s_iconst (z := 1) rfl) ?_
      refine pe_go (pc := 132) rfl (s_iald (n := 3) (f := row3 (T.xs p0) (T.ys p0) (T.hs p0)) (v := T.ys p0) hr0 (k := 1) (by omega) (by omega) (by decide) rfl) ?_
      refine pe_go (pc := 133) rfl s_isub ?_
      refine pe_go (pc := 134) rfl s_imul ?_
      refine pe_go (pc := 135) rfl s_iadd ?_
      show qE 156 (136, _, [.int (iI (T.sq p2 p0))], w) Φ
      rw [g2]
      refine pe_go (pc := 136) rfl (s_i2l ⟨by omega, by omega⟩) ?_
      refine pe_go (pc := 137) rfl (s_lstore (lv' := [(19, .long (lI d2)), (18, .ref r0), (17, .ref r2), (16, .int (iI 2)), (13, .long (lI d0)), (15, .int (iI 0)), (12, .int (iI (i : Int))), (11, .int (iI at9)), (9, .long (lI be)), (7, .long (lI up)), (6, .int (iI bst)), (5, .int (iI (k : Int))), (4, .int (iI (c : Int))), (3, .ref t), (0, .ref b), (1, .ref a), (2, .int (iI (many : Int)))]) rfl) ?_
      refine pe_go (pc := 139) rfl (s_lload rfl) ?_
      refine pe_go (pc := 141) rfl (s_lload rfl) ?_
      refine pe_go rfl (s_lcmp_eq c2) ?_
      refine pe_go rfl (s_if_le_t ⟨by decide, by decide⟩ (by decide)) ?_
      refine pe_go (pc := 152) rfl (s_iload rfl) ?_
      refine pe_go (pc := 154) rfl (s_istore (lv' := [(15, .int (iI 0)), (19, .long (lI d2)), (18, .ref r0), (17, .ref r2), (16, .int (iI 2)), (13, .long (lI d0)), (12, .int (iI (i : Int))), (11, .int (iI at9)), (9, .long (lI be)), (7, .long (lI up)), (6, .int (iI bst)), (5, .int (iI (k : Int))), (4, .int (iI (c : Int))), (3, .ref t), (0, .ref b), (1, .ref a), (2, .int (iI (many : Int)))]) rfl) ?_
      refine pe_go (pc := 156) rfl (s_lload rfl) ?_
      refine pe_go (pc := 158) rfl (s_lload rfl) ?_
      refine pe_call rfl (s_invS rfl rfl rfl) (c_maxL (x := d0) (y := d2) ⟨by omega, by omega⟩ ⟨by omega, by omega⟩) ?_
      rw [zmL_ge (by omega)]
      refine pe_go (pc := 163) rfl (s_lstore (lv' := [(13, .long (lI d0)), (15, .int (iI 0)), (19, .long (lI d2)), (18, .ref r0), (17, .ref r2), (16, .int (iI 2)), (12, .int (iI (i : Int))), (11, .int (iI at9)), (9, .long (lI be)), (7, .long (lI up)), (6, .int (iI bst)), (5, .int (iI (k : Int))), (4, .int (iI (c : Int))), (3, .ref t), (0, .ref b), (1, .ref a), (2, .int (iI (many : Int)))]) rfl) ?_
      refine pe_go (pc := 165) rfl (s_iinc (x := 2) (y := 3) rfl (by omega) (lv' := [(16, .int (iI 3)), (13, .long (lI d0)), (15, .int (iI 0)), (19, .long (lI d2)), (18, .ref r0), (17, .ref r2), (12, .int (iI (i : Int))), (11, .int (iI at9)), (9, .long (lI be)), (7, .long (lI up)), (6, .int (iI bst)), (5, .int (iI (k : Int))), (4, .int (iI (c : Int))), (3, .ref t), (0, .ref b), (1, .ref a), (2, .int (iI (many : Int)))]) rfl) ?_
      refine pe_go (pc := 168) rfl s_goto ?_
      refine pe_go (pc := 57) rfl (s_iload rfl) ?_
      refine pe_go (pc := 59) rfl (s_iconst (z := 3) rfl) ?_
      refine pe_go rfl (s_icmp_ge_t ⟨by decide, by decide⟩ ⟨by decide, by decide⟩ (by decide)) ?_
      refine pe_few (lv := [(15, .int (iI ((0 : Nat) : Int))), (13, .long (lI d0)), (12, .int (iI (i : Int))), (11, .int (iI at9)), (9, .long (lI be)), (7, .long (lI up)), (6, .int (iI bst)), (5, .int (iI (k : Int))), (4, .int (iI (c : Int))), (3, .ref t), (0, .ref b), (1, .ref a), (2, .int (iI (many : Int)))]) rfl rfl (by intro q hq; simp only [List.mem_cons, List.not_mem_nil, or_false] at hq; rcases hq with rfl | rfl | rfl | rfl | rfl | rfl | rfl | rfl | rfl | rfl | rfl | rfl | rfl <;> rfl) ?_
      exact KK d0 0 (by show _ = T.qs i (T.lgs i); rw [hlg]; (repeat' split) <;> first | omega | (first | rw [hq0] | rw [hq1] | rw [hq2]) <;> omega) (by rw [hlg]; (repeat' split) <;> omega)
    · skip
      refine pe_go (pc := 48) rfl s_lconst0 ?_
      refine pe_go (pc := 49) rfl (s_lstore (lv' := [(13, .long (lI 0)), (12, .int (iI (i : Int))), (11, .int (iI at9)), (9, .long (lI be)), (7, .long (lI up)), (6, .int (iI bst)), (5, .int (iI (k : Int))), (4, .int (iI (c : Int))), (3, .ref t), (0, .ref b), (1, .ref a), (2, .int (iI (many : Int)))]) rfl) ?_
      refine pe_go (pc := 51) rfl (s_iconst (z := 0) rfl) ?_
      refine pe_go (pc := 52) rfl (s_istore (lv' := [(15, .int (iI 0)), (13, .long (lI 0)), (12, .int (iI (i : Int))), (11, .int (iI at9)), (9, .long (lI be)), (7, .long (lI up)), (6, .int (iI bst)), (5, .int (iI (k : Int))), (4, .int (iI (c : Int))), (3, .ref t), (0, .ref b), (1, .ref a), (2, .int (iI (many : Int)))]) rfl) ?_
      refine pe_go (pc := 54) rfl (s_iconst (z := 0) rfl) ?_
      refine pe_go (pc := 55) rfl (s_istore (lv' := [(16, .int (iI 0)), (15, .int (iI 0)), (13, .long (lI 0)), (12, .int (iI (i : Int))), (11, .int (iI at9)), (9, .long (lI be)), (7, .long (lI up)), (6, .int (iI bst)), (5, .int (iI (k : Int))), (4, .int (iI (c : Int))), (3, .ref t), (0, .ref b), (1, .ref a), (2, .int (iI (many : Int)))]) rfl) ?_
      refine pe_go (pc := 57) rfl (s_iload rfl) ?_
      refine pe_go (pc := 59) rfl (s_iconst (z := 3) rfl) ?_
      refine pe_go rfl (s_icmp_ge_f ⟨by decide, by decide⟩ ⟨by decide, by decide⟩ (by decide)) ?_
      refine pe_go (pc := 63) rfl (s_aload_n rfl) ?_
      refine pe_go (pc := 64) rfl (s_getf (v := .ref pa) h0 rfl) ?_
      refine pe_go (pc := 67) rfl (s_aload_n rfl) ?_
      refine pe_go (pc := 68) rfl (s_iload rfl) ?_
      refine pe_go (pc := 70) rfl (s_iload rfl) ?_
      refine pe_call rfl (s_invV rfl (OB.obj hb hO) rfl rfl) (corner_at hb hO hN hN2 (t := i) (k := 0) hi (by decide) hc0) ?_
      refine pe_go (pc := 75) rfl (s_aald h1 (k := p0) (by omega) (by omega) er0) ?_
      refine pe_go (pc := 76) rfl (s_astore (lv' := [(17, .ref r0), (16, .int (iI 0)), (15, .int (iI 0)), (13, .long (lI 0)), (12, .int (iI (i : Int))), (11, .int (iI at9)), (9, .long (lI be)), (7, .long (lI up)), (6, .int (iI bst)), (5, .int (iI (k : Int))), (4, .int (iI (c : Int))), (3, .ref t), (0, .ref b), (1, .ref a), (2, .int (iI (many : Int)))]) rfl) ?_
      refine pe_go (pc := 78) rfl (s_aload_n rfl) ?_
      refine pe_go (pc := 79) rfl (s_getf (v := .ref pa) h0 rfl) ?_
      refine pe_go (pc := 82) rfl (s_aload_n rfl) ?_
      refine pe_go (pc := 83) rfl (s_iload rfl) ?_
      refine pe_go (pc := 85) rfl (s_iload rfl) ?_
      refine pe_go (pc := 87) rfl (s_iconst (z := 1) rfl) ?_
      refine pe_go (q := (89, [(17, .ref r0), (16, .int (iI 0)), (15, .int (iI 0)), (13, .long (lI 0)), (12, .int (iI (i : Int))), (11, .int (iI at9)), (9, .long (lI be)), (7, .long (lI up)), (6, .int (iI bst)), (5, .int (iI (k : Int))), (4, .int (iI (c : Int))), (3, .ref t), (0, .ref b), (1, .ref a), (2, .int (iI (many : Int)))], [.int (iI 1), .int (iI (i : Int)), .ref t, .ref pa], w)) rfl s_iadd ?_
      refine pe_go (pc := 89) rfl (s_iconst (z := 3) rfl) ?_
      refine pe_go (pc := 90) rfl (s_irem ⟨by decide, by decide⟩ ⟨by decide, by decide⟩ (by decide) (by decide) (show Int.tmod 1 3 = 1 from by decide)) ?_
      refine pe_call rfl (s_invV rfl (OB.obj hb hO) rfl rfl) (corner_at hb hO hN hN2 (t := i) (k := 1) hi (by decide) hc1) ?_
      refine pe_go (pc := 94) rfl (s_aald h1 (k := p1) (by omega) (by omega) er1) ?_
      refine pe_go (pc := 95) rfl (s_astore (lv' := [(18, .ref r1), (17, .ref r0), (16, .int (iI 0)), (15, .int (iI 0)), (13, .long (lI 0)), (12, .int (iI (i : Int))), (11, .int (iI at9)), (9, .long (lI be)), (7, .long (lI up)), (6, .int (iI bst)), (5, .int (iI (k : Int))), (4, .int (iI (c : Int))), (3, .ref t), (0, .ref b), (1, .ref a), (2, .int (iI (many : Int)))]) rfl) ?_
      refine pe_go (pc := 97) rfl (s_aload rfl) ?_
      refine pe_go (pc := 99) rfl (s_iconst (z := 0) rfl) ?_
      refine pe_go (pc := 100) rfl (s_iald (n := 3) (f := row3 (T.xs p0) (T.ys p0) (T.hs p0)) (v := T.xs p0) hr0 (k := 0) (by omega) (by omega) (by decide) rfl) ?_
      refine pe_go (pc := 101) rfl (s_aload rfl) ?_
      refine pe_go (pc := 103) rfl (s_iconst (z := 0) rfl) ?_
      refine pe_go (pc := 104) rfl (s_iald (n := 3) (f := row3 (T.xs p1) (T.ys p1) (T.hs p1)) (v := T.xs p1) hr1 (k := 0) (by omega) (by omega) (by decide) rfl) ?_
      refine pe_go (pc := 105) rfl s_isub ?_
      refine pe_go (pc := 106) rfl (s_aload rfl) ?_
      refine pe_go (pc := 108) rfl (s_iconst (z := 0) rfl) ?_
      refine pe_go (pc := 109) rfl (s_iald (n := 3) (f := row3 (T.xs p0) (T.ys p0) (T.hs p0)) (v := T.xs p0) hr0 (k := 0) (by omega) (by omega) (by decide) rfl) ?_
      refine pe_go (pc := 110) rfl (s_aload rfl) ?_
      refine pe_go (pc := 112) rfl (s_iconst (z := 0) rfl) ?_
      refine pe_go (pc := 113) rfl (s_iald (n := 3) (f := row3 (T.xs p1) (T.ys p1) (T.hs p1)) (v := T.xs p1) hr1 (k := 0) (by omega) (by omega) (by decide) rfl) ?_
      refine pe_go (pc := 114) rfl s_isub ?_
      refine pe_go (pc := 115) rfl s_imul ?_
      refine pe_go (pc := 116) rfl (s_aload rfl) ?_
      refine pe_go (pc := 118) rfl (s_iconst (z := 1) rfl) ?_
      refine pe_go (pc := 119) rfl (s_iald (n := 3) (f := row3 (T.xs p0) (T.ys p0) (T.hs p0)) (v := T.ys p0) hr0 (k := 1) (by omega) (by omega) (by decide) rfl) ?_
      refine pe_go (pc := 120) rfl (s_aload rfl) ?_
      refine pe_go (pc := 122) rfl (s_iconst (z := 1) rfl) ?_
      refine pe_go (pc := 123) rfl (s_iald (n := 3) (f := row3 (T.xs p1) (T.ys p1) (T.hs p1)) (v := T.ys p1) hr1 (k := 1) (by omega) (by omega) (by decide) rfl) ?_
      refine pe_go (pc := 124) rfl s_isub ?_
      refine pe_go (pc := 125) rfl (s_aload rfl) ?_
      refine pe_go (pc := 127) rfl (s_iconst (z := 1) rfl) ?_
      refine pe_go (pc := 128) rfl (s_iald (n := 3) (f := row3 (T.xs p0) (T.ys p0) (T.hs p0)) (v := T.ys p0) hr0 (k := 1) (by omega) (by omega) (by decide) rfl) ?_
      refine pe_go (pc := 129) rfl (s_aload rfl) ?_
      refine pe_go (pc := 131) rfl (s_iconst (z := 1) rfl) ?_
      refine pe_go (pc := 132) rfl (s_iald (n := 3) (f := row3 (T.xs p1) (T.ys p1) (T.hs p1)) (v := T.ys p1) hr1 (k := 1) (by omega) (by omega) (by decide) rfl) ?_
      refine pe_go (pc := 133) rfl s_isub ?_
      refine pe_go (pc := 134) rfl s_imul ?_
      refine pe_go (pc := 135) rfl s_iadd ?_
      show qE 156 (136, _, [.int (iI (T.sq p0 p1))], w) Φ
      rw [g0]
      refine pe_go (pc := 136) rfl (s_i2l ⟨by omega, by omega⟩) ?_
      refine pe_go (pc := 137) rfl (s_lstore (lv' := [(19, .long (lI d0)), (18, .ref r1), (17, .ref r0), (16, .int (iI 0)), (15, .int (iI 0)), (13, .long (lI 0)), (12, .int (iI (i : Int))), (11, .int (iI at9)), (9, .long (lI be)), (7, .long (lI up)), (6, .int (iI bst)), (5, .int (iI (k : Int))), (4, .int (iI (c : Int))), (3, .ref t), (0, .ref b), (1, .ref a), (2, .int (iI (many : Int)))]) rfl) ?_
      refine pe_go (pc := 139) rfl (s_lload rfl) ?_
      refine pe_go (pc := 141) rfl (s_lload rfl) ?_
      refine pe_go rfl (s_lcmp_gt ⟨by omega, by omega⟩ ⟨by omega, by omega⟩ (by omega)) ?_
      refine pe_go rfl (s_if_le_f ⟨by decide, by decide⟩ (by decide)) ?_
      refine pe_go (pc := 147) rfl (s_iload rfl) ?_
      refine pe_go (pc := 149) rfl s_goto ?_
      refine pe_go (pc := 154) rfl (s_istore (lv' := [(15, .int (iI 0)), (19, .long (lI d0)), (18, .ref r1), (17, .ref r0), (16, .int (iI 0)), (13, .long (lI 0)), (12, .int (iI (i : Int))), (11, .int (iI at9)), (9, .long (lI be)), (7, .long (lI up)), (6, .int (iI bst)), (5, .int (iI (k : Int))), (4, .int (iI (c : Int))), (3, .ref t), (0, .ref b), (1, .ref a), (2, .int (iI (many : Int)))]) rfl) ?_
      refine pe_go (pc := 156) rfl (s_lload rfl) ?_
      refine pe_go (pc := 158) rfl (s_lload rfl) ?_
      refine pe_call rfl (s_invS rfl rfl rfl) (c_maxL (x := 0) (y := d0) ⟨by omega, by omega⟩ ⟨by omega, by omega⟩) ?_
      rw [zmL_lt (by omega)]
      refine pe_go (pc := 163) rfl (s_lstore (lv' := [(13, .long (lI d0)), (15, .int (iI 0)), (19, .long (lI d0)), (18, .ref r1), (17, .ref r0), (16, .int (iI 0)), (12, .int (iI (i : Int))), (11, .int (iI at9)), (9, .long (lI be)), (7, .long (lI up)), (6, .int (iI bst)), (5, .int (iI (k : Int))), (4, .int (iI (c : Int))), (3, .ref t), (0, .ref b), (1, .ref a), (2, .int (iI (many : Int)))]) rfl) ?_
      refine pe_go (pc := 165) rfl (s_iinc (x := 0) (y := 1) rfl (by omega) (lv' := [(16, .int (iI 1)), (13, .long (lI d0)), (15, .int (iI 0)), (19, .long (lI d0)), (18, .ref r1), (17, .ref r0), (12, .int (iI (i : Int))), (11, .int (iI at9)), (9, .long (lI be)), (7, .long (lI up)), (6, .int (iI bst)), (5, .int (iI (k : Int))), (4, .int (iI (c : Int))), (3, .ref t), (0, .ref b), (1, .ref a), (2, .int (iI (many : Int)))]) rfl) ?_
      refine pe_go (pc := 168) rfl s_goto ?_
      refine pe_go (pc := 57) rfl (s_iload rfl) ?_
      refine pe_go (pc := 59) rfl (s_iconst (z := 3) rfl) ?_
      refine pe_go rfl (s_icmp_ge_f ⟨by decide, by decide⟩ ⟨by decide, by decide⟩ (by decide)) ?_
      refine pe_go (pc := 63) rfl (s_aload_n rfl) ?_
      refine pe_go (pc := 64) rfl (s_getf (v := .ref pa) h0 rfl) ?_
      refine pe_go (pc := 67) rfl (s_aload_n rfl) ?_
      refine pe_go (pc := 68) rfl (s_iload rfl) ?_
      refine pe_go (pc := 70) rfl (s_iload rfl) ?_
      refine pe_call rfl (s_invV rfl (OB.obj hb hO) rfl rfl) (corner_at hb hO hN hN2 (t := i) (k := 1) hi (by decide) hc1) ?_
      refine pe_go (pc := 75) rfl (s_aald h1 (k := p1) (by omega) (by omega) er1) ?_
      refine pe_go (pc := 76) rfl (s_astore (lv' := [(17, .ref r1), (16, .int (iI 1)), (13, .long (lI d0)), (15, .int (iI 0)), (19, .long (lI d0)), (18, .ref r1), (12, .int (iI (i : Int))), (11, .int (iI at9)), (9, .long (lI be)), (7, .long (lI up)), (6, .int (iI bst)), (5, .int (iI (k : Int))), (4, .int (iI (c : Int))), (3, .ref t), (0, .ref b), (1, .ref a), (2, .int (iI (many : Int)))]) rfl) ?_
      refine pe_go (pc := 78) rfl (s_aload_n rfl) ?_
      refine pe_go (pc := 79) rfl (s_getf (v := .ref pa) h0 rfl) ?_
      refine pe_go (pc := 82) rfl (s_aload_n rfl) ?_
      refine pe_go (pc := 83) rfl (s_iload rfl) ?_
      refine pe_go (pc := 85) rfl (s_iload rfl) ?_
      refine pe_go (pc := 87) rfl (s_iconst (z := 1) rfl) ?_
      refine pe_go (q := (89, [(17, .ref r1), (16, .int (iI 1)), (13, .long (lI d0)), (15, .int (iI 0)), (19, .long (lI d0)), (18, .ref r1), (12, .int (iI (i : Int))), (11, .int (iI at9)), (9, .long (lI be)), (7, .long (lI up)), (6, .int (iI bst)), (5, .int (iI (k : Int))), (4, .int (iI (c : Int))), (3, .ref t), (0, .ref b), (1, .ref a), (2, .int (iI (many : Int)))], [.int (iI 2), .int (iI (i : Int)), .ref t, .ref pa], w)) rfl s_iadd ?_
      refine pe_go (pc := 89) rfl (s_iconst (z := 3) rfl) ?_
      refine pe_go (pc := 90) rfl (s_irem ⟨by decide, by decide⟩ ⟨by decide, by decide⟩ (by decide) (by decide) (show Int.tmod 2 3 = 2 from by decide)) ?_
      refine pe_call rfl (s_invV rfl (OB.obj hb hO) rfl rfl) (corner_at hb hO hN hN2 (t := i) (k := 2) hi (by decide) hc2) ?_
      refine pe_go (pc := 94) rfl (s_aald h1 (k := p2) (by omega) (by omega) er2) ?_
      refine pe_go (pc := 95) rfl (s_astore (lv' := [(18, .ref r2), (17, .ref r1), (16, .int (iI 1)), (13, .long (lI d0)), (15, .int (iI 0)), (19, .long (lI d0)), (12, .int (iI (i : Int))), (11, .int (iI at9)), (9, .long (lI be)), (7, .long (lI up)), (6, .int (iI bst)), (5, .int (iI (k : Int))), (4, .int (iI (c : Int))), (3, .ref t), (0, .ref b), (1, .ref a), (2, .int (iI (many : Int)))]) rfl) ?_
      refine pe_go (pc := 97) rfl (s_aload rfl) ?_
      refine pe_go (pc := 99) rfl (s_iconst (z := 0) rfl) ?_
      refine pe_go (pc := 100) rfl (s_iald (n := 3) (f := row3 (T.xs p1) (T.ys p1) (T.hs p1)) (v := T.xs p1) hr1 (k := 0) (by omega) (by omega) (by decide) rfl) ?_
      refine pe_go (pc := 101) rfl (s_aload rfl) ?_
      refine pe_go (pc := 103) rfl (s_iconst (z := 0) rfl) ?_
      refine pe_go (pc := 104) rfl (s_iald (n := 3) (f := row3 (T.xs p2) (T.ys p2) (T.hs p2)) (v := T.xs p2) hr2 (k := 0) (by omega) (by omega) (by decide) rfl) ?_
      refine pe_go (pc := 105) rfl s_isub ?_
      refine pe_go (pc := 106) rfl (s_aload rfl) ?_
      refine pe_go (pc := 108) rfl (s_iconst (z := 0) rfl) ?_
      refine pe_go (pc := 109) rfl (s_iald (n := 3) (f := row3 (T.xs p1) (T.ys p1) (T.hs p1)) (v := T.xs p1) hr1 (k := 0) (by omega) (by omega) (by decide) rfl) ?_
      refine pe_go (pc := 110) rfl (s_aload rfl) ?_
      refine pe_go (pc := 112) rfl (s_iconst (z := 0) rfl) ?_
      refine pe_go (pc := 113) rfl (s_iald (n := 3) (f := row3 (T.xs p2) (T.ys p2) (T.hs p2)) (v := T.xs p2) hr2 (k := 0) (by omega) (by omega) (by decide) rfl) ?_
      refine pe_go (pc := 114) rfl s_isub ?_
      refine pe_go (pc := 115) rfl s_imul ?_
      refine pe_go (pc := 116) rfl (s_aload rfl) ?_
      refine pe_go (pc := 118) rfl (s_iconst (z := 1) rfl) ?_
      refine pe_go (pc := 119) rfl (s_iald (n := 3) (f := row3 (T.xs p1) (T.ys p1) (T.hs p1)) (v := T.ys p1) hr1 (k := 1) (by omega) (by omega) (by decide) rfl) ?_
      refine pe_go (pc := 120) rfl (s_aload rfl) ?_
      refine pe_go (pc := 122) rfl (s_iconst (z := 1) rfl) ?_
      refine pe_go (pc := 123) rfl (s_iald (n := 3) (f := row3 (T.xs p2) (T.ys p2) (T.hs p2)) (v := T.ys p2) hr2 (k := 1) (by omega) (by omega) (by decide) rfl) ?_
      refine pe_go (pc := 124) rfl s_isub ?_
      refine pe_go (pc := 125) rfl (s_aload rfl) ?_
      refine pe_go (pc := 127) rfl (s_iconst (z := 1) rfl) ?_
      refine pe_go (pc := 128) rfl (s_iald (n := 3) (f := row3 (T.xs p1) (T.ys p1) (T.hs p1)) (v := T.ys p1) hr1 (k := 1) (by omega) (by omega) (by decide) rfl) ?_
      refine pe_go (pc := 129) rfl (s_aload rfl) ?_
      refine pe_go (pc := 131) rfl (s_iconst (z := 1) rfl) ?_
      refine pe_go (pc := 132) rfl (s_iald (n := 3) (f := row3 (T.xs p2) (T.ys p2) (T.hs p2)) (v := T.ys p2) hr2 (k := 1) (by omega) (by omega) (by decide) rfl) ?_
      refine pe_go (pc := 133) rfl s_isub ?_
      refine pe_go (pc := 134) rfl s_imul ?_
      refine pe_go (pc := 135) rfl s_iadd ?_
      show qE 156 (136, _, [.int (iI (T.sq p1 p2))], w) Φ
      rw [g1]
      refine pe_go (pc := 136) rfl (s_i2l ⟨by omega, by omega⟩) ?_
      refine pe_go (pc := 137) rfl (s_lstore (lv' := [(19, .long (lI d1)), (18, .ref r2), (17, .ref r1), (16, .int (iI 1)), (13, .long (lI d0)), (15, .int (iI 0)), (12, .int (iI (i : Int))), (11, .int (iI at9)), (9, .long (lI be)), (7, .long (lI up)), (6, .int (iI bst)), (5, .int (iI (k : Int))), (4, .int (iI (c : Int))), (3, .ref t), (0, .ref b), (1, .ref a), (2, .int (iI (many : Int)))]) rfl) ?_
      refine pe_go (pc := 139) rfl (s_lload rfl) ?_
      refine pe_go (pc := 141) rfl (s_lload rfl) ?_
      refine pe_go rfl (s_lcmp_eq c1) ?_
      refine pe_go rfl (s_if_le_t ⟨by decide, by decide⟩ (by decide)) ?_
      refine pe_go (pc := 152) rfl (s_iload rfl) ?_
      refine pe_go (pc := 154) rfl (s_istore (lv' := [(15, .int (iI 0)), (19, .long (lI d1)), (18, .ref r2), (17, .ref r1), (16, .int (iI 1)), (13, .long (lI d0)), (12, .int (iI (i : Int))), (11, .int (iI at9)), (9, .long (lI be)), (7, .long (lI up)), (6, .int (iI bst)), (5, .int (iI (k : Int))), (4, .int (iI (c : Int))), (3, .ref t), (0, .ref b), (1, .ref a), (2, .int (iI (many : Int)))]) rfl) ?_
      refine pe_go (pc := 156) rfl (s_lload rfl) ?_
      refine pe_go (pc := 158) rfl (s_lload rfl) ?_
      refine pe_call rfl (s_invS rfl rfl rfl) (c_maxL (x := d0) (y := d1) ⟨by omega, by omega⟩ ⟨by omega, by omega⟩) ?_
      rw [zmL_ge (by omega)]
      refine pe_go (pc := 163) rfl (s_lstore (lv' := [(13, .long (lI d0)), (15, .int (iI 0)), (19, .long (lI d1)), (18, .ref r2), (17, .ref r1), (16, .int (iI 1)), (12, .int (iI (i : Int))), (11, .int (iI at9)), (9, .long (lI be)), (7, .long (lI up)), (6, .int (iI bst)), (5, .int (iI (k : Int))), (4, .int (iI (c : Int))), (3, .ref t), (0, .ref b), (1, .ref a), (2, .int (iI (many : Int)))]) rfl) ?_
      refine pe_go (pc := 165) rfl (s_iinc (x := 1) (y := 2) rfl (by omega) (lv' := [(16, .int (iI 2)), (13, .long (lI d0)), (15, .int (iI 0)), (19, .long (lI d1)), (18, .ref r2), (17, .ref r1), (12, .int (iI (i : Int))), (11, .int (iI at9)), (9, .long (lI be)), (7, .long (lI up)), (6, .int (iI bst)), (5, .int (iI (k : Int))), (4, .int (iI (c : Int))), (3, .ref t), (0, .ref b), (1, .ref a), (2, .int (iI (many : Int)))]) rfl) ?_
      refine pe_go (pc := 168) rfl s_goto ?_
      refine pe_go (pc := 57) rfl (s_iload rfl) ?_
      refine pe_go (pc := 59) rfl (s_iconst (z := 3) rfl) ?_
      refine pe_go rfl (s_icmp_ge_f ⟨by decide, by decide⟩ ⟨by decide, by decide⟩ (by decide)) ?_
      refine pe_go (pc := 63) rfl (s_aload_n rfl) ?_
      refine pe_go (pc := 64) rfl (s_getf (v := .ref pa) h0 rfl) ?_
      refine pe_go (pc := 67) rfl (s_aload_n rfl) ?_
      refine pe_go (pc := 68) rfl (s_iload rfl) ?_
      refine pe_go (pc := 70) rfl (s_iload rfl) ?_
      refine pe_call rfl (s_invV rfl (OB.obj hb hO) rfl rfl) (corner_at hb hO hN hN2 (t := i) (k := 2) hi (by decide) hc2) ?_
      refine pe_go (pc := 75) rfl (s_aald h1 (k := p2) (by omega) (by omega) er2) ?_
      refine pe_go (pc := 76) rfl (s_astore (lv' := [(17, .ref r2), (16, .int (iI 2)), (13, .long (lI d0)), (15, .int (iI 0)), (19, .long (lI d1)), (18, .ref r2), (12, .int (iI (i : Int))), (11, .int (iI at9)), (9, .long (lI be)), (7, .long (lI up)), (6, .int (iI bst)), (5, .int (iI (k : Int))), (4, .int (iI (c : Int))), (3, .ref t), (0, .ref b), (1, .ref a), (2, .int (iI (many : Int)))]) rfl) ?_
      refine pe_go (pc := 78) rfl (s_aload_n rfl) ?_
      refine pe_go (pc := 79) rfl (s_getf (v := .ref pa) h0 rfl) ?_
      refine pe_go (pc := 82) rfl (s_aload_n rfl) ?_
      refine pe_go (pc := 83) rfl (s_iload rfl) ?_
      refine pe_go (pc := 85) rfl (s_iload rfl) ?_
      refine pe_go (pc := 87) rfl (s_iconst (z := 1) rfl) ?_
      refine pe_go (q := (89, [(17, .ref r2), (16, .int (iI 2)), (13, .long (lI d0)), (15, .int (iI 0)), (19, .long (lI d1)), (18, .ref r2), (12, .int (iI (i : Int))), (11, .int (iI at9)), (9, .long (lI be)), (7, .long (lI up)), (6, .int (iI bst)), (5, .int (iI (k : Int))), (4, .int (iI (c : Int))), (3, .ref t), (0, .ref b), (1, .ref a), (2, .int (iI (many : Int)))], [.int (iI 3), .int (iI (i : Int)), .ref t, .ref pa], w)) rfl s_iadd ?_
      refine pe_go (pc := 89) rfl (s_iconst (z := 3) rfl) ?_
      refine pe_go (pc := 90) rfl (s_irem ⟨by decide, by decide⟩ ⟨by decide, by decide⟩ (by decide) (by decide) (show Int.tmod 3 3 = 0 from by decide)) ?_
      refine pe_call rfl (s_invV rfl (OB.obj hb hO) rfl rfl) (corner_at hb hO hN hN2 (t := i) (k := 0) hi (by decide) hc0) ?_
      refine pe_go (pc := 94) rfl (s_aald h1 (k := p0) (by omega) (by omega) er0) ?_
      refine pe_go (pc := 95) rfl (s_astore (lv' := [(18, .ref r0), (17, .ref r2), (16, .int (iI 2)), (13, .long (lI d0)), (15, .int (iI 0)), (19, .long (lI d1)), (12, .int (iI (i : Int))), (11, .int (iI at9)), (9, .long (lI be)), (7, .long (lI up)), (6, .int (iI bst)), (5, .int (iI (k : Int))), (4, .int (iI (c : Int))), (3, .ref t), (0, .ref b), (1, .ref a), (2, .int (iI (many : Int)))]) rfl) ?_
      refine pe_go (pc := 97) rfl (s_aload rfl) ?_
      refine pe_go (pc := 99) rfl (s_iconst (z := 0) rfl) ?_
      refine pe_go (pc := 100) rfl (s_iald (n := 3) (f := row3 (T.xs p2) (T.ys p2) (T.hs p2)) (v := T.xs p2) hr2 (k := 0) (by omega) (by omega) (by decide) rfl) ?_
      refine pe_go (pc := 101) rfl (s_aload rfl) ?_
      refine pe_go (pc := 103) rfl (s_iconst (z := 0) rfl) ?_
      refine pe_go (pc := 104) rfl (s_iald (n := 3) (f := row3 (T.xs p0) (T.ys p0) (T.hs p0)) (v := T.xs p0) hr0 (k := 0) (by omega) (by omega) (by decide) rfl) ?_
      refine pe_go (pc := 105) rfl s_isub ?_
      refine pe_go (pc := 106) rfl (s_aload rfl) ?_
      refine pe_go (pc := 108) rfl (s_iconst (z := 0) rfl) ?_
      refine pe_go (pc := 109) rfl (s_iald (n := 3) (f := row3 (T.xs p2) (T.ys p2) (T.hs p2)) (v := T.xs p2) hr2 (k := 0) (by omega) (by omega) (by decide) rfl) ?_
      refine pe_go (pc := 110) rfl (s_aload rfl) ?_
      refine pe_go (pc := 112) rfl (s_iconst (z := 0) rfl) ?_
      refine pe_go (pc := 113) rfl (s_iald (n := 3) (f := row3 (T.xs p0) (T.ys p0) (T.hs p0)) (v := T.xs p0) hr0 (k := 0) (by omega) (by omega) (by decide) rfl) ?_
      refine pe_go (pc := 114) rfl s_isub ?_
      refine pe_go (pc := 115) rfl s_imul ?_
      refine pe_go (pc := 116) rfl (s_aload rfl) ?_
      refine pe_go (pc := 118) rfl (s_iconst (z := 1) rfl) ?_
      refine pe_go (pc := 119) rfl (s_iald (n := 3) (f := row3 (T.xs p2) (T.ys p2) (T.hs p2)) (v := T.ys p2) hr2 (k := 1) (by omega) (by omega) (by decide) rfl) ?_
      refine pe_go (pc := 120) rfl (s_aload rfl) ?_
      refine pe_go (pc := 122) rfl (s_iconst (z := 1) rfl) ?_
      refine pe_go (pc := 123) rfl (s_iald (n := 3) (f := row3 (T.xs p0) (T.ys p0) (T.hs p0)) (v := T.ys p0) hr0 (k := 1) (by omega) (by omega) (by decide) rfl) ?_
      refine pe_go (pc := 124) rfl s_isub ?_
      refine pe_go (pc := 125) rfl (s_aload rfl) ?_
      refine pe_go (pc := 127) rfl (s_iconst (z := 1) rfl) ?_
      refine pe_go (pc := 128) rfl (s_iald (n := 3) (f := row3 (T.xs p2) (T.ys p2) (T.hs p2)) (v := T.ys p2) hr2 (k := 1) (by omega) (by omega) (by decide) rfl) ?_
      refine pe_go (pc := 129) rfl (s_aload rfl) ?_
      refine pe_go (pc := 131) rfl (s_iconst (z := 1) rfl) ?_
      refine pe_go (pc := 132) rfl (s_iald (n := 3) (f := row3 (T.xs p0) (T.ys p0) (T.hs p0)) (v := T.ys p0) hr0 (k := 1) (by omega) (by omega) (by decide) rfl) ?_
      refine pe_go (pc := 133) rfl s_isub ?_
      refine pe_go (pc := 134) rfl s_imul ?_
      refine pe_go (pc := 135) rfl s_iadd ?_
      show qE 156 (136, _, [.int (iI (T.sq p2 p0))], w) Φ
      rw [g2]
      refine pe_go (pc := 136) rfl (s_i2l ⟨by omega, by omega⟩) ?_
      refine pe_go (pc := 137) rfl (s_lstore (lv' := [(19, .long (lI d2)), (18, .ref r0), (17, .ref r2), (16, .int (iI 2)), (13, .long (lI d0)), (15, .int (iI 0)), (12, .int (iI (i : Int))), (11, .int (iI at9)), (9, .long (lI be)), (7, .long (lI up)), (6, .int (iI bst)), (5, .int (iI (k : Int))), (4, .int (iI (c : Int))), (3, .ref t), (0, .ref b), (1, .ref a), (2, .int (iI (many : Int)))]) rfl) ?_
      refine pe_go (pc := 139) rfl (s_lload rfl) ?_
      refine pe_go (pc := 141) rfl (s_lload rfl) ?_
      refine pe_go rfl (s_lcmp_gt ⟨by omega, by omega⟩ ⟨by omega, by omega⟩ c2) ?_
      refine pe_go rfl (s_if_le_f ⟨by decide, by decide⟩ (by decide)) ?_
      refine pe_go (pc := 147) rfl (s_iload rfl) ?_
      refine pe_go (pc := 149) rfl s_goto ?_
      refine pe_go (pc := 154) rfl (s_istore (lv' := [(15, .int (iI 2)), (19, .long (lI d2)), (18, .ref r0), (17, .ref r2), (16, .int (iI 2)), (13, .long (lI d0)), (12, .int (iI (i : Int))), (11, .int (iI at9)), (9, .long (lI be)), (7, .long (lI up)), (6, .int (iI bst)), (5, .int (iI (k : Int))), (4, .int (iI (c : Int))), (3, .ref t), (0, .ref b), (1, .ref a), (2, .int (iI (many : Int)))]) rfl) ?_
      refine pe_go (pc := 156) rfl (s_lload rfl) ?_
      refine pe_go (pc := 158) rfl (s_lload rfl) ?_
      refine pe_call rfl (s_invS rfl rfl rfl) (c_maxL (x := d0) (y := d2) ⟨by omega, by omega⟩ ⟨by omega, by omega⟩) ?_
      rw [zmL_lt (by omega)]
      refine pe_go (pc := 163) rfl (s_lstore (lv' := [(13, .long (lI d2)), (15, .int (iI 2)), (19, .long (lI d2)), (18, .ref r0), (17, .ref r2), (16, .int (iI 2)), (12, .int (iI (i : Int))), (11, .int (iI at9)), (9, .long (lI be)), (7, .long (lI up)), (6, .int (iI bst)), (5, .int (iI (k : Int))), (4, .int (iI (c : Int))), (3, .ref t), (0, .ref b), (1, .ref a), (2, .int (iI (many : Int)))]) rfl) ?_
      refine pe_go (pc := 165) rfl (s_iinc (x := 2) (y := 3) rfl (by omega) (lv' := [(16, .int (iI 3)), (13, .long (lI d2)), (15, .int (iI 2)), (19, .long (lI d2)), (18, .ref r0), (17, .ref r2), (12, .int (iI (i : Int))), (11, .int (iI at9)), (9, .long (lI be)), (7, .long (lI up)), (6, .int (iI bst)), (5, .int (iI (k : Int))), (4, .int (iI (c : Int))), (3, .ref t), (0, .ref b), (1, .ref a), (2, .int (iI (many : Int)))]) rfl) ?_
      refine pe_go (pc := 168) rfl s_goto ?_
      refine pe_go (pc := 57) rfl (s_iload rfl) ?_
      refine pe_go (pc := 59) rfl (s_iconst (z := 3) rfl) ?_
      refine pe_go rfl (s_icmp_ge_t ⟨by decide, by decide⟩ ⟨by decide, by decide⟩ (by decide)) ?_
      refine pe_few (lv := [(15, .int (iI ((2 : Nat) : Int))), (13, .long (lI d2)), (12, .int (iI (i : Int))), (11, .int (iI at9)), (9, .long (lI be)), (7, .long (lI up)), (6, .int (iI bst)), (5, .int (iI (k : Int))), (4, .int (iI (c : Int))), (3, .ref t), (0, .ref b), (1, .ref a), (2, .int (iI (many : Int)))]) rfl rfl (by intro q hq; simp only [List.mem_cons, List.not_mem_nil, or_false] at hq; rcases hq with rfl | rfl | rfl | rfl | rfl | rfl | rfl | rfl | rfl | rfl | rfl | rfl | rfl <;> rfl) ?_
      exact KK d2 2 (by show _ = T.qs i (T.lgs i); rw [hlg]; (repeat' split) <;> first | omega | (first | rw [hq0] | rw [hq1] | rw [hq2]) <;> omega) (by rw [hlg]; (repeat' split) <;> omega)
  · skip
    rcases Int.lt_trichotomy d2 d1 with c2 | c2 | c2
    · skip
      refine pe_go (pc := 48) rfl s_lconst0 ?_
      refine pe_go (pc := 49) rfl (s_lstore (lv' := [(13, .long (lI 0)), (12, .int (iI (i : Int))), (11, .int (iI at9)), (9, .long (lI be)), (7, .long (lI up)), (6, .int (iI bst)), (5, .int (iI (k : Int))), (4, .int (iI (c : Int))), (3, .ref t), (0, .ref b), (1, .ref a), (2, .int (iI (many : Int)))]) rfl) ?_
      refine pe_go (pc := 51) rfl (s_iconst (z := 0) rfl) ?_
      refine pe_go (pc := 52) rfl (s_istore (lv' := [(15, .int (iI 0)), (13, .long (lI 0)), (12, .int (iI (i : Int))), (11, .int (iI at9)), (9, .long (lI be)), (7, .long (lI up)), (6, .int (iI bst)), (5, .int (iI (k : Int))), (4, .int (iI (c : Int))), (3, .ref t), (0, .ref b), (1, .ref a), (2, .int (iI (many : Int)))]) rfl) ?_
      refine pe_go (pc := 54) rfl (s_iconst (z := 0) rfl) ?_
      refine pe_go (pc := 55) rfl (s_istore (lv' := [(16, .int (iI 0)), (15, .int (iI 0)), (13, .long (lI 0)), (12, .int (iI (i : Int))), (11, .int (iI at9)), (9, .long (lI be)), (7, .long (lI up)), (6, .int (iI bst)), (5, .int (iI (k : Int))), (4, .int (iI (c : Int))), (3, .ref t), (0, .ref b), (1, .ref a), (2, .int (iI (many : Int)))]) rfl) ?_
      refine pe_go (pc := 57) rfl (s_iload rfl) ?_
      refine pe_go (pc := 59) rfl (s_iconst (z := 3) rfl) ?_
      refine pe_go rfl (s_icmp_ge_f ⟨by decide, by decide⟩ ⟨by decide, by decide⟩ (by decide)) ?_
      refine pe_go (pc := 63) rfl (s_aload_n rfl) ?_
      refine pe_go (pc := 64) rfl (s_getf (v := .ref pa) h0 rfl) ?_
      refine pe_go (pc := 67) rfl (s_aload_n rfl) ?_
      refine pe_go (pc := 68) rfl (s_iload rfl) ?_
      refine pe_go (pc := 70) rfl (s_iload rfl) ?_
      refine pe_call rfl (s_invV rfl (OB.obj hb hO) rfl rfl) (corner_at hb hO hN hN2 (t := i) (k := 0) hi (by decide) hc0) ?_
      refine pe_go (pc := 75) rfl (s_aald h1 (k := p0) (by omega) (by omega) er0) ?_
      refine pe_go (pc := 76) rfl (s_astore (lv' := [(17, .ref r0), (16, .int (iI 0)), (15, .int (iI 0)), (13, .long (lI 0)), (12, .int (iI (i : Int))), (11, .int (iI at9)), (9, .long (lI be)), (7, .long (lI up)), (6, .int (iI bst)), (5, .int (iI (k : Int))), (4, .int (iI (c : Int))), (3, .ref t), (0, .ref b), (1, .ref a), (2, .int (iI (many : Int)))]) rfl) ?_
      refine pe_go (pc := 78) rfl (s_aload_n rfl) ?_
      refine pe_go (pc := 79) rfl (s_getf (v := .ref pa) h0 rfl) ?_
      refine pe_go (pc := 82) rfl (s_aload_n rfl) ?_
      refine pe_go (pc := 83) rfl (s_iload rfl) ?_
      refine pe_go (pc := 85) rfl (s_iload rfl) ?_
      refine pe_go (pc := 87) rfl (s_iconst (z := 1) rfl) ?_
      refine pe_go (q := (89, [(17, .ref r0), (16, .int (iI 0)), (15, .int (iI 0)), (13, .long (lI 0)), (12, .int (iI (i : Int))), (11, .int (iI at9)), (9, .long (lI be)), (7, .long (lI up)), (6, .int (iI bst)), (5, .int (iI (k : Int))), (4, .int (iI (c : Int))), (3, .ref t), (0, .ref b), (1, .ref a), (2, .int (iI (many : Int)))], [.int (iI 1), .int (iI (i : Int)), .ref t, .ref pa], w)) rfl s_iadd ?_
      refine pe_go (pc := 89) rfl (s_iconst (z := 3) rfl) ?_
      refine pe_go (pc := 90) rfl (s_irem ⟨by decide, by decide⟩ ⟨by decide, by decide⟩ (by decide) (by decide) (show Int.tmod 1 3 = 1 from by decide)) ?_
      refine pe_call rfl (s_invV rfl (OB.obj hb hO) rfl rfl) (corner_at hb hO hN hN2 (t := i) (k := 1) hi (by decide) hc1) ?_
      refine pe_go (pc := 94) rfl (s_aald h1 (k := p1) (by omega) (by omega) er1) ?_
      refine pe_go (pc := 95) rfl (s_astore (lv' := [(18, .ref r1), (17, .ref r0), (16, .int (iI 0)), (15, .int (iI 0)), (13, .long (lI 0)), (12, .int (iI (i : Int))), (11, .int (iI at9)), (9, .long (lI be)), (7, .long (lI up)), (6, .int (iI bst)), (5, .int (iI (k : Int))), (4, .int (iI (c : Int))), (3, .ref t), (0, .ref b), (1, .ref a), (2, .int (iI (many : Int)))]) rfl) ?_
      refine pe_go (pc := 97) rfl (s_aload rfl) ?_
      refine pe_go (pc := 99) rfl (s_iconst (z := 0) rfl) ?_
      refine pe_go (pc := 100) rfl (s_iald (n := 3) (f := row3 (T.xs p0) (T.ys p0) (T.hs p0)) (v := T.xs p0) hr0 (k := 0) (by omega) (by omega) (by decide) rfl) ?_
      refine pe_go (pc := 101) rfl (s_aload rfl) ?_
      refine pe_go (pc := 103) rfl (s_iconst (z := 0) rfl) ?_
      refine pe_go (pc := 104) rfl (s_iald (n := 3) (f := row3 (T.xs p1) (T.ys p1) (T.hs p1)) (v := T.xs p1) hr1 (k := 0) (by omega) (by omega) (by decide) rfl) ?_
      refine pe_go (pc := 105) rfl s_isub ?_
      refine pe_go (pc := 106) rfl (s_aload rfl) ?_
      refine pe_go (pc := 108) rfl (s_iconst (z := 0) rfl) ?_
      refine pe_go (pc := 109) rfl (s_iald (n := 3) (f := row3 (T.xs p0) (T.ys p0) (T.hs p0)) (v := T.xs p0) hr0 (k := 0) (by omega) (by omega) (by decide) rfl) ?_
      refine pe_go (pc := 110) rfl (s_aload rfl) ?_
      refine pe_go (pc := 112) rfl (s_iconst (z := 0) rfl) ?_
      refine pe_go (pc := 113) rfl (s_iald (n := 3) (f := row3 (T.xs p1) (T.ys p1) (T.hs p1)) (v := T.xs p1) hr1 (k := 0) (by omega) (by omega) (by decide) rfl) ?_
      refine pe_go (pc := 114) rfl s_isub ?_
      refine pe_go (pc := 115) rfl s_imul ?_
      refine pe_go (pc := 116) rfl (s_aload rfl) ?_
      refine pe_go (pc := 118) rfl (s_iconst (z := 1) rfl) ?_
      refine pe_go (pc := 119) rfl (s_iald (n := 3) (f := row3 (T.xs p0) (T.ys p0) (T.hs p0)) (v := T.ys p0) hr0 (k := 1) (by omega) (by omega) (by decide) rfl) ?_
      refine pe_go (pc := 120) rfl (s_aload rfl) ?_
      refine pe_go (pc := 122) rfl (s_iconst (z := 1) rfl) ?_
      refine pe_go (pc := 123) rfl (s_iald (n := 3) (f := row3 (T.xs p1) (T.ys p1) (T.hs p1)) (v := T.ys p1) hr1 (k := 1) (by omega) (by omega) (by decide) rfl) ?_
      refine pe_go (pc := 124) rfl s_isub ?_
      refine pe_go (pc := 125) rfl (s_aload rfl) ?_
      refine pe_go (pc := 127) rfl (s_iconst (z := 1) rfl) ?_
      refine pe_go (pc := 128) rfl (s_iald (n := 3) (f := row3 (T.xs p0) (T.ys p0) (T.hs p0)) (v := T.ys p0) hr0 (k := 1) (by omega) (by omega) (by decide) rfl) ?_
      refine pe_go (pc := 129) rfl (s_aload rfl) ?_
      refine pe_go (pc := 131) rfl (s_iconst (z := 1) rfl) ?_
      refine pe_go (pc := 132) rfl (s_iald (n := 3) (f := row3 (T.xs p1) (T.ys p1) (T.hs p1)) (v := T.ys p1) hr1 (k := 1) (by omega) (by omega) (by decide) rfl) ?_
      refine pe_go (pc := 133) rfl s_isub ?_
      refine pe_go (pc := 134) rfl s_imul ?_
      refine pe_go (pc := 135) rfl s_iadd ?_
      show qE 156 (136, _, [.int (iI (T.sq p0 p1))], w) Φ
      rw [g0]
      refine pe_go (pc := 136) rfl (s_i2l ⟨by omega, by omega⟩) ?_
      refine pe_go (pc := 137) rfl (s_lstore (lv' := [(19, .long (lI d0)), (18, .ref r1), (17, .ref r0), (16, .int (iI 0)), (15, .int (iI 0)), (13, .long (lI 0)), (12, .int (iI (i : Int))), (11, .int (iI at9)), (9, .long (lI be)), (7, .long (lI up)), (6, .int (iI bst)), (5, .int (iI (k : Int))), (4, .int (iI (c : Int))), (3, .ref t), (0, .ref b), (1, .ref a), (2, .int (iI (many : Int)))]) rfl) ?_
      refine pe_go (pc := 139) rfl (s_lload rfl) ?_
      refine pe_go (pc := 141) rfl (s_lload rfl) ?_
      refine pe_go rfl (s_lcmp_gt ⟨by omega, by omega⟩ ⟨by omega, by omega⟩ (by omega)) ?_
      refine pe_go rfl (s_if_le_f ⟨by decide, by decide⟩ (by decide)) ?_
      refine pe_go (pc := 147) rfl (s_iload rfl) ?_
      refine pe_go (pc := 149) rfl s_goto ?_
      refine pe_go (pc := 154) rfl (s_istore (lv' := [(15, .int (iI 0)), (19, .long (lI d0)), (18, .ref r1), (17, .ref r0), (16, .int (iI 0)), (13, .long (lI 0)), (12, .int (iI (i : Int))), (11, .int (iI at9)), (9, .long (lI be)), (7, .long (lI up)), (6, .int (iI bst)), (5, .int (iI (k : Int))), (4, .int (iI (c : Int))), (3, .ref t), (0, .ref b), (1, .ref a), (2, .int (iI (many : Int)))]) rfl) ?_
      refine pe_go (pc := 156) rfl (s_lload rfl) ?_
      refine pe_go (pc := 158) rfl (s_lload rfl) ?_
      refine pe_call rfl (s_invS rfl rfl rfl) (c_maxL (x := 0) (y := d0) ⟨by omega, by omega⟩ ⟨by omega, by omega⟩) ?_
      rw [zmL_lt (by omega)]
      refine pe_go (pc := 163) rfl (s_lstore (lv' := [(13, .long (lI d0)), (15, .int (iI 0)), (19, .long (lI d0)), (18, .ref r1), (17, .ref r0), (16, .int (iI 0)), (12, .int (iI (i : Int))), (11, .int (iI at9)), (9, .long (lI be)), (7, .long (lI up)), (6, .int (iI bst)), (5, .int (iI (k : Int))), (4, .int (iI (c : Int))), (3, .ref t), (0, .ref b), (1, .ref a), (2, .int (iI (many : Int)))]) rfl) ?_
      refine pe_go (pc := 165) rfl (s_iinc (x := 0) (y := 1) rfl (by omega) (lv' := [(16, .int (iI 1)), (13, .long (lI d0)), (15, .int (iI 0)), (19, .long (lI d0)), (18, .ref r1), (17, .ref r0), (12, .int (iI (i : Int))), (11, .int (iI at9)), (9, .long (lI be)), (7, .long (lI up)), (6, .int (iI bst)), (5, .int (iI (k : Int))), (4, .int (iI (c : Int))), (3, .ref t), (0, .ref b), (1, .ref a), (2, .int (iI (many : Int)))]) rfl) ?_
      refine pe_go (pc := 168) rfl s_goto ?_
      refine pe_go (pc := 57) rfl (s_iload rfl) ?_
      refine pe_go (pc := 59) rfl (s_iconst (z := 3) rfl) ?_
      refine pe_go rfl (s_icmp_ge_f ⟨by decide, by decide⟩ ⟨by decide, by decide⟩ (by decide)) ?_
      refine pe_go (pc := 63) rfl (s_aload_n rfl) ?_
      refine pe_go (pc := 64) rfl (s_getf (v := .ref pa) h0 rfl) ?_
      refine pe_go (pc := 67) rfl (s_aload_n rfl) ?_
      refine pe_go (pc := 68) rfl (s_iload rfl) ?_
      refine pe_go (pc := 70) rfl (s_iload rfl) ?_
      refine pe_call rfl (s_invV rfl (OB.obj hb hO) rfl rfl) (corner_at hb hO hN hN2 (t := i) (k := 1) hi (by decide) hc1) ?_
      refine pe_go (pc := 75) rfl (s_aald h1 (k := p1) (by omega) (by omega) er1) ?_
      refine pe_go (pc := 76) rfl (s_astore (lv' := [(17, .ref r1), (16, .int (iI 1)), (13, .long (lI d0)), (15, .int (iI 0)), (19, .long (lI d0)), (18, .ref r1), (12, .int (iI (i : Int))), (11, .int (iI at9)), (9, .long (lI be)), (7, .long (lI up)), (6, .int (iI bst)), (5, .int (iI (k : Int))), (4, .int (iI (c : Int))), (3, .ref t), (0, .ref b), (1, .ref a), (2, .int (iI (many : Int)))]) rfl) ?_
      refine pe_go (pc := 78) rfl (s_aload_n rfl) ?_
      refine pe_go (pc := 79) rfl (s_getf (v := .ref pa) h0 rfl) ?_
      refine pe_go (pc := 82) rfl (s_aload_n rfl) ?_
      refine pe_go (pc := 83) rfl (s_iload rfl) ?_
      refine pe_go (pc := 85) rfl (s_iload rfl) ?_
      refine pe_go (pc := 87) rfl (s_iconst (z := 1) rfl) ?_
      refine pe_go (q := (89, [(17, .ref r1), (16, .int (iI 1)), (13, .long (lI d0)), (15, .int (iI 0)), (19, .long (lI d0)), (18, .ref r1), (12, .int (iI (i : Int))), (11, .int (iI at9)), (9, .long (lI be)), (7, .long (lI up)), (6, .int (iI bst)), (5, .int (iI (k : Int))), (4, .int (iI (c : Int))), (3, .ref t), (0, .ref b), (1, .ref a), (2, .int (iI (many : Int)))], [.int (iI 2), .int (iI (i : Int)), .ref t, .ref pa], w)) rfl s_iadd ?_
      refine pe_go (pc := 89) rfl (s_iconst (z := 3) rfl) ?_
      refine pe_go (pc := 90) rfl (s_irem ⟨by decide, by decide⟩ ⟨by decide, by decide⟩ (by decide) (by decide) (show Int.tmod 2 3 = 2 from by decide)) ?_
      refine pe_call rfl (s_invV rfl (OB.obj hb hO) rfl rfl) (corner_at hb hO hN hN2 (t := i) (k := 2) hi (by decide) hc2) ?_
      refine pe_go (pc := 94) rfl (s_aald h1 (k := p2) (by omega) (by omega) er2) ?_
      refine pe_go (pc := 95) rfl (s_astore (lv' := [(18, .ref r2), (17, .ref r1), (16, .int (iI 1)), (13, .long (lI d0)), (15, .int (iI 0)), (19, .long (lI d0)), (12, .int (iI (i : Int))), (11, .int (iI at9)), (9, .long (lI be)), (7, .long (lI up)), (6, .int (iI bst)), (5, .int (iI (k : Int))), (4, .int (iI (c : Int))), (3, .ref t), (0, .ref b), (1, .ref a), (2, .int (iI (many : Int)))]) rfl) ?_
      refine pe_go (pc := 97) rfl (s_aload rfl) ?_
      refine pe_go (pc := 99) rfl (s_iconst (z := 0) rfl) ?_
      refine pe_go (pc := 100) rfl (s_iald (n := 3) (f := row3 (T.xs p1) (T.ys p1) (T.hs p1)) (v := T.xs p1) hr1 (k := 0) (by omega) (by omega) (by decide) rfl) ?_
      refine pe_go (pc := 101) rfl (s_aload rfl) ?_
      refine pe_go (pc := 103) rfl (s_iconst (z := 0) rfl) ?_
      refine pe_go (pc := 104) rfl (s_iald (n := 3) (f := row3 (T.xs p2) (T.ys p2) (T.hs p2)) (v := T.xs p2) hr2 (k := 0) (by omega) (by omega) (by decide) rfl) ?_
      refine pe_go (pc := 105) rfl s_isub ?_
      refine pe_go (pc := 106) rfl (s_aload rfl) ?_
      refine pe_go (pc := 108) rfl (s_iconst (z := 0) rfl) ?_
      refine pe_go (pc := 109) rfl (s_iald (n := 3) (f := row3 (T.xs p1) (T.ys p1) (T.hs p1)) (v := T.xs p1) hr1 (k := 0) (by omega) (by omega) (by decide) rfl) ?_
      refine pe_go (pc := 110) rfl (s_aload rfl) ?_
      refine pe_go (pc := 112) rfl (s_iconst (z := 0) rfl) ?_
      refine pe_go (pc := 113) rfl (s_iald (n := 3) (f := row3 (T.xs p2) (T.ys p2) (T.hs p2)) (v := T.xs p2) hr2 (k := 0) (by omega) (by omega) (by decide) rfl) ?_
      refine pe_go (pc := 114) rfl s_isub ?_
      refine pe_go (pc := 115) rfl s_imul ?_
      refine pe_go (pc := 116) rfl (s_aload rfl) ?_
      refine pe_go (pc := 118) rfl (s_iconst (z := 1) rfl) ?_
      refine pe_go (pc := 119) rfl (s_iald (n := 3) (f := row3 (T.xs p1) (T.ys p1) (T.hs p1)) (v := T.ys p1) hr1 (k := 1) (by omega) (by omega) (by decide) rfl) ?_
      refine pe_go (pc := 120) rfl (s_aload rfl) ?_
      refine pe_go (pc := 122) rfl (s_iconst (z := 1) rfl) ?_
      refine pe_go (pc := 123) rfl (s_iald (n := 3) (f := row3 (T.xs p2) (T.ys p2) (T.hs p2)) (v := T.ys p2) hr2 (k := 1) (by omega) (by omega) (by decide) rfl) ?_
      refine pe_go (pc := 124) rfl s_isub ?_
      refine pe_go (pc := 125) rfl (s_aload rfl) ?_
      refine pe_go (pc := 127) rfl (s_iconst (z := 1) rfl) ?_
      refine pe_go (pc := 128) rfl (s_iald (n := 3) (f := row3 (T.xs p1) (T.ys p1) (T.hs p1)) (v := T.ys p1) hr1 (k := 1) (by omega) (by omega) (by decide) rfl) ?_
      refine pe_go (pc := 129) rfl (s_aload rfl) ?_
      refine pe_go (pc := 131) rfl (s_iconst (z := 1) rfl) ?_
      refine pe_go (pc := 132) rfl (s_iald (n := 3) (f := row3 (T.xs p2) (T.ys p2) (T.hs p2)) (v := T.ys p2) hr2 (k := 1) (by omega) (by omega) (by decide) rfl) ?_
      refine pe_go (pc := 133) rfl s_isub ?_
      refine pe_go (pc := 134) rfl s_imul ?_
      refine pe_go (pc := 135) rfl s_iadd ?_
      show qE 156 (136, _, [.int (iI (T.sq p1 p2))], w) Φ
      rw [g1]
      refine pe_go (pc := 136) rfl (s_i2l ⟨by omega, by omega⟩) ?_
      refine pe_go (pc := 137) rfl (s_lstore (lv' := [(19, .long (lI d1)), (18, .ref r2), (17, .ref r1), (16, .int (iI 1)), (13, .long (lI d0)), (15, .int (iI 0)), (12, .int (iI (i : Int))), (11, .int (iI at9)), (9, .long (lI be)), (7, .long (lI up)), (6, .int (iI bst)), (5, .int (iI (k : Int))), (4, .int (iI (c : Int))), (3, .ref t), (0, .ref b), (1, .ref a), (2, .int (iI (many : Int)))]) rfl) ?_
      refine pe_go (pc := 139) rfl (s_lload rfl) ?_
      refine pe_go (pc := 141) rfl (s_lload rfl) ?_
      refine pe_go rfl (s_lcmp_gt ⟨by omega, by omega⟩ ⟨by omega, by omega⟩ c1) ?_
      refine pe_go rfl (s_if_le_f ⟨by decide, by decide⟩ (by decide)) ?_
      refine pe_go (pc := 147) rfl (s_iload rfl) ?_
      refine pe_go (pc := 149) rfl s_goto ?_
      refine pe_go (pc := 154) rfl (s_istore (lv' := [(15, .int (iI 1)), (19, .long (lI d1)), (18, .ref r2), (17, .ref r1), (16, .int (iI 1)), (13, .long (lI d0)), (12, .int (iI (i : Int))), (11, .int (iI at9)), (9, .long (lI be)), (7, .long (lI up)), (6, .int (iI bst)), (5, .int (iI (k : Int))), (4, .int (iI (c : Int))), (3, .ref t), (0, .ref b), (1, .ref a), (2, .int (iI (many : Int)))]) rfl) ?_
      refine pe_go (pc := 156) rfl (s_lload rfl) ?_
      refine pe_go (pc := 158) rfl (s_lload rfl) ?_
      refine pe_call rfl (s_invS rfl rfl rfl) (c_maxL (x := d0) (y := d1) ⟨by omega, by omega⟩ ⟨by omega, by omega⟩) ?_
      rw [zmL_lt (by omega)]
      refine pe_go (pc := 163) rfl (s_lstore (lv' := [(13, .long (lI d1)), (15, .int (iI 1)), (19, .long (lI d1)), (18, .ref r2), (17, .ref r1), (16, .int (iI 1)), (12, .int (iI (i : Int))), (11, .int (iI at9)), (9, .long (lI be)), (7, .long (lI up)), (6, .int (iI bst)), (5, .int (iI (k : Int))), (4, .int (iI (c : Int))), (3, .ref t), (0, .ref b), (1, .ref a), (2, .int (iI (many : Int)))]) rfl) ?_
      refine pe_go (pc := 165) rfl (s_iinc (x := 1) (y := 2) rfl (by omega) (lv' := [(16, .int (iI 2)), (13, .long (lI d1)), (15, .int (iI 1)), (19, .long (lI d1)), (18, .ref r2), (17, .ref r1), (12, .int (iI (i : Int))), (11, .int (iI at9)), (9, .long (lI be)), (7, .long (lI up)), (6, .int (iI bst)), (5, .int (iI (k : Int))), (4, .int (iI (c : Int))), (3, .ref t), (0, .ref b), (1, .ref a), (2, .int (iI (many : Int)))]) rfl) ?_
      refine pe_go (pc := 168) rfl s_goto ?_
      refine pe_go (pc := 57) rfl (s_iload rfl) ?_
      refine pe_go (pc := 59) rfl (s_iconst (z := 3) rfl) ?_
      refine pe_go rfl (s_icmp_ge_f ⟨by decide, by decide⟩ ⟨by decide, by decide⟩ (by decide)) ?_
      refine pe_go (pc := 63) rfl (s_aload_n rfl) ?_
      refine pe_go (pc := 64) rfl (s_getf (v := .ref pa) h0 rfl) ?_
      refine pe_go (pc := 67) rfl (s_aload_n rfl) ?_
      refine pe_go (pc := 68) rfl (s_iload rfl) ?_
      refine pe_go (pc := 70) rfl (s_iload rfl) ?_
      refine pe_call rfl (s_invV rfl (OB.obj hb hO) rfl rfl) (corner_at hb hO hN hN2 (t := i) (k := 2) hi (by decide) hc2) ?_
      refine pe_go (pc := 75) rfl (s_aald h1 (k := p2) (by omega) (by omega) er2) ?_
      refine pe_go (pc := 76) rfl (s_astore (lv' := [(17, .ref r2), (16, .int (iI 2)), (13, .long (lI d1)), (15, .int (iI 1)), (19, .long (lI d1)), (18, .ref r2), (12, .int (iI (i : Int))), (11, .int (iI at9)), (9, .long (lI be)), (7, .long (lI up)), (6, .int (iI bst)), (5, .int (iI (k : Int))), (4, .int (iI (c : Int))), (3, .ref t), (0, .ref b), (1, .ref a), (2, .int (iI (many : Int)))]) rfl) ?_
      refine pe_go (pc := 78) rfl (s_aload_n rfl) ?_
      refine pe_go (pc := 79) rfl (s_getf (v := .ref pa) h0 rfl) ?_
      refine pe_go (pc := 82) rfl (s_aload_n rfl) ?_
      refine pe_go (pc := 83) rfl (s_iload rfl) ?_
      refine pe_go (pc := 85) rfl (s_iload rfl) ?_
      refine pe_go (pc := 87) rfl (s_iconst (z := 1) rfl) ?_
      refine pe_go (q := (89, [(17, .ref r2), (16, .int (iI 2)), (13, .long (lI d1)), (15, .int (iI 1)), (19, .long (lI d1)), (18, .ref r2), (12, .int (iI (i : Int))), (11, .int (iI at9)), (9, .long (lI be)), (7, .long (lI up)), (6, .int (iI bst)), (5, .int (iI (k : Int))), (4, .int (iI (c : Int))), (3, .ref t), (0, .ref b), (1, .ref a), (2, .int (iI (many : Int)))], [.int (iI 3), .int (iI (i : Int)), .ref t, .ref pa], w)) rfl s_iadd ?_
      refine pe_go (pc := 89) rfl (s_iconst (z := 3) rfl) ?_
      refine pe_go (pc := 90) rfl (s_irem ⟨by decide, by decide⟩ ⟨by decide, by decide⟩ (by decide) (by decide) (show Int.tmod 3 3 = 0 from by decide)) ?_
      refine pe_call rfl (s_invV rfl (OB.obj hb hO) rfl rfl) (corner_at hb hO hN hN2 (t := i) (k := 0) hi (by decide) hc0) ?_
      refine pe_go (pc := 94) rfl (s_aald h1 (k := p0) (by omega) (by omega) er0) ?_
      refine pe_go (pc := 95) rfl (s_astore (lv' := [(18, .ref r0), (17, .ref r2), (16, .int (iI 2)), (13, .long (lI d1)), (15, .int (iI 1)), (19, .long (lI d1)), (12, .int (iI (i : Int))), (11, .int (iI at9)), (9, .long (lI be)), (7, .long (lI up)), (6, .int (iI bst)), (5, .int (iI (k : Int))), (4, .int (iI (c : Int))), (3, .ref t), (0, .ref b), (1, .ref a), (2, .int (iI (many : Int)))]) rfl) ?_
      refine pe_go (pc := 97) rfl (s_aload rfl) ?_
      refine pe_go (pc := 99) rfl (s_iconst (z := 0) rfl) ?_
      refine pe_go (pc := 100) rfl (s_iald (n := 3) (f := row3 (T.xs p2) (T.ys p2) (T.hs p2)) (v := T.xs p2) hr2 (k := 0) (by omega) (by omega) (by decide) rfl) ?_
      refine pe_go (pc := 101) rfl (s_aload rfl) ?_
      refine pe_go (pc := 103) rfl (s_iconst (z := 0) rfl) ?_
      refine pe_go (pc := 104) rfl (s_iald (n := 3) (f := row3 (T.xs p0) (T.ys p0) (T.hs p0)) (v := T.xs p0) hr0 (k := 0) (by omega) (by omega) (by decide) rfl) ?_
      refine pe_go (pc := 105) rfl s_isub ?_
      refine pe_go (pc := 106) rfl (s_aload rfl) ?_
      refine pe_go (pc := 108) rfl (s_iconst (z := 0) rfl) ?_
      refine pe_go (pc := 109) rfl (s_iald (n := 3) (f := row3 (T.xs p2) (T.ys p2) (T.hs p2)) (v := T.xs p2) hr2 (k := 0) (by omega) (by omega) (by decide) rfl) ?_
      refine pe_go (pc := 110) rfl (s_aload rfl) ?_
      refine pe_go (pc := 112) rfl (s_iconst (z := 0) rfl) ?_
      refine pe_go (pc := 113) rfl (s_iald (n := 3) (f := row3 (T.xs p0) (T.ys p0) (T.hs p0)) (v := T.xs p0) hr0 (k := 0) (by omega) (by omega) (by decide) rfl) ?_
      refine pe_go (pc := 114) rfl s_isub ?_
      refine pe_go (pc := 115) rfl s_imul ?_
      refine pe_go (pc := 116) rfl (s_aload rfl) ?_
      refine pe_go (pc := 118) rfl (s_iconst (z := 1) rfl) ?_
      refine pe_go (pc := 119) rfl (s_iald (n := 3) (f := row3 (T.xs p2) (T.ys p2) (T.hs p2)) (v := T.ys p2) hr2 (k := 1) (by omega) (by omega) (by decide) rfl) ?_
      refine pe_go (pc := 120) rfl (s_aload rfl) ?_
      refine pe_go (pc := 122) rfl (s_iconst (z := 1) rfl) ?_
      refine pe_go (pc := 123) rfl (s_iald (n := 3) (f := row3 (T.xs p0) (T.ys p0) (T.hs p0)) (v := T.ys p0) hr0 (k := 1) (by omega) (by omega) (by decide) rfl) ?_
      refine pe_go (pc := 124) rfl s_isub ?_
      refine pe_go (pc := 125) rfl (s_aload rfl) ?_
      refine pe_go (pc := 127) rfl (s_iconst (z := 1) rfl) ?_
      refine pe_go (pc := 128) rfl (s_iald (n := 3) (f := row3 (T.xs p2) (T.ys p2) (T.hs p2)) (v := T.ys p2) hr2 (k := 1) (by omega) (by omega) (by decide) rfl) ?_
      refine pe_go (pc := 129) rfl (s_aload rfl) ?_
      refine pe_go (pc := 131) rfl (s_iconst (z := 1) rfl) ?_
      refine pe_go (pc := 132) rfl (s_iald (n := 3) (f := row3 (T.xs p0) (T.ys p0) (T.hs p0)) (v := T.ys p0) hr0 (k := 1) (by omega) (by omega) (by decide) rfl) ?_
      refine pe_go (pc := 133) rfl s_isub ?_
      refine pe_go (pc := 134) rfl s_imul ?_
      refine pe_go (pc := 135) rfl s_iadd ?_
      show qE 156 (136, _, [.int (iI (T.sq p2 p0))], w) Φ
      rw [g2]
      refine pe_go (pc := 136) rfl (s_i2l ⟨by omega, by omega⟩) ?_
      refine pe_go (pc := 137) rfl (s_lstore (lv' := [(19, .long (lI d2)), (18, .ref r0), (17, .ref r2), (16, .int (iI 2)), (13, .long (lI d1)), (15, .int (iI 1)), (12, .int (iI (i : Int))), (11, .int (iI at9)), (9, .long (lI be)), (7, .long (lI up)), (6, .int (iI bst)), (5, .int (iI (k : Int))), (4, .int (iI (c : Int))), (3, .ref t), (0, .ref b), (1, .ref a), (2, .int (iI (many : Int)))]) rfl) ?_
      refine pe_go (pc := 139) rfl (s_lload rfl) ?_
      refine pe_go (pc := 141) rfl (s_lload rfl) ?_
      refine pe_go rfl (s_lcmp_lt ⟨by omega, by omega⟩ ⟨by omega, by omega⟩ c2) ?_
      refine pe_go rfl (s_if_le_t ⟨by decide, by decide⟩ (by decide)) ?_
      refine pe_go (pc := 152) rfl (s_iload rfl) ?_
      refine pe_go (pc := 154) rfl (s_istore (lv' := [(15, .int (iI 1)), (19, .long (lI d2)), (18, .ref r0), (17, .ref r2), (16, .int (iI 2)), (13, .long (lI d1)), (12, .int (iI (i : Int))), (11, .int (iI at9)), (9, .long (lI be)), (7, .long (lI up)), (6, .int (iI bst)), (5, .int (iI (k : Int))), (4, .int (iI (c : Int))), (3, .ref t), (0, .ref b), (1, .ref a), (2, .int (iI (many : Int)))]) rfl) ?_
      refine pe_go (pc := 156) rfl (s_lload rfl) ?_
      refine pe_go (pc := 158) rfl (s_lload rfl) ?_
      refine pe_call rfl (s_invS rfl rfl rfl) (c_maxL (x := d1) (y := d2) ⟨by omega, by omega⟩ ⟨by omega, by omega⟩) ?_
      rw [zmL_ge (by omega)]
      refine pe_go (pc := 163) rfl (s_lstore (lv' := [(13, .long (lI d1)), (15, .int (iI 1)), (19, .long (lI d2)), (18, .ref r0), (17, .ref r2), (16, .int (iI 2)), (12, .int (iI (i : Int))), (11, .int (iI at9)), (9, .long (lI be)), (7, .long (lI up)), (6, .int (iI bst)), (5, .int (iI (k : Int))), (4, .int (iI (c : Int))), (3, .ref t), (0, .ref b), (1, .ref a), (2, .int (iI (many : Int)))]) rfl) ?_
      refine pe_go (pc := 165) rfl (s_iinc (x := 2) (y := 3) rfl (by omega) (lv' := [(16, .int (iI 3)), (13, .long (lI d1)), (15, .int (iI 1)), (19, .long (lI d2)), (18, .ref r0), (17, .ref r2), (12, .int (iI (i : Int))), (11, .int (iI at9)), (9, .long (lI be)), (7, .long (lI up)), (6, .int (iI bst)), (5, .int (iI (k : Int))), (4, .int (iI (c : Int))), (3, .ref t), (0, .ref b), (1, .ref a), (2, .int (iI (many : Int)))]) rfl) ?_
      refine pe_go (pc := 168) rfl s_goto ?_
      refine pe_go (pc := 57) rfl (s_iload rfl) ?_
      refine pe_go (pc := 59) rfl (s_iconst (z := 3) rfl) ?_
      refine pe_go rfl (s_icmp_ge_t ⟨by decide, by decide⟩ ⟨by decide, by decide⟩ (by decide)) ?_
      refine pe_few (lv := [(15, .int (iI ((1 : Nat) : Int))), (13, .long (lI d1)), (12, .int (iI (i : Int))), (11, .int (iI at9)), (9, .long (lI be)), (7, .long (lI up)), (6, .int (iI bst)), (5, .int (iI (k : Int))), (4, .int (iI (c : Int))), (3, .ref t), (0, .ref b), (1, .ref a), (2, .int (iI (many : Int)))]) rfl rfl (by intro q hq; simp only [List.mem_cons, List.not_mem_nil, or_false] at hq; rcases hq with rfl | rfl | rfl | rfl | rfl | rfl | rfl | rfl | rfl | rfl | rfl | rfl | rfl <;> rfl) ?_
      exact KK d1 1 (by show _ = T.qs i (T.lgs i); rw [hlg]; (repeat' split) <;> first | omega | (first | rw [hq0] | rw [hq1] | rw [hq2]) <;> omega) (by rw [hlg]; (repeat' split) <;> omega)
    · skip
      refine pe_go (pc := 48) rfl s_lconst0 ?_
      refine pe_go (pc := 49) rfl (s_lstore (lv' := [(13, .long (lI 0)), (12, .int (iI (i : Int))), (11, .int (iI at9)), (9, .long (lI be)), (7, .long (lI up)), (6, .int (iI bst)), (5, .int (iI (k : Int))), (4, .int (iI (c : Int))), (3, .ref t), (0, .ref b), (1, .ref a), (2, .int (iI (many : Int)))]) rfl) ?_
      refine pe_go (pc := 51) rfl (s_iconst (z := 0) rfl) ?_
      refine pe_go (pc := 52) rfl (s_istore (lv' := [(15, .int (iI 0)), (13, .long (lI 0)), (12, .int (iI (i : Int))), (11, .int (iI at9)), (9, .long (lI be)), (7, .long (lI up)), (6, .int (iI bst)), (5, .int (iI (k : Int))), (4, .int (iI (c : Int))), (3, .ref t), (0, .ref b), (1, .ref a), (2, .int (iI (many : Int)))]) rfl) ?_
      refine pe_go (pc := 54) rfl (s_iconst (z := 0) rfl) ?_
      refine pe_go (pc := 55) rfl (s_istore (lv' := [(16, .int (iI 0)), (15, .int (iI 0)), (13, .long (lI 0)), (12, .int (iI (i : Int))), (11, .int (iI at9)), (9, .long (lI be)), (7, .long (lI up)), (6, .int (iI bst)), (5, .int (iI (k : Int))), (4, .int (iI (c : Int))), (3, .ref t), (0, .ref b), (1, .ref a), (2, .int (iI (many : Int)))]) rfl) ?_
      refine pe_go (pc := 57) rfl (s_iload rfl) ?_
      refine pe_go (pc := 59) rfl (s_iconst (z := 3) rfl) ?_
      refine pe_go rfl (s_icmp_ge_f ⟨by decide, by decide⟩ ⟨by decide, by decide⟩ (by decide)) ?_
      refine pe_go (pc := 63) rfl (s_aload_n rfl) ?_
      refine pe_go (pc := 64) rfl (s_getf (v := .ref pa) h0 rfl) ?_
      refine pe_go (pc := 67) rfl (s_aload_n rfl) ?_
      refine pe_go (pc := 68) rfl (s_iload rfl) ?_
      refine pe_go (pc := 70) rfl (s_iload rfl) ?_
      refine pe_call rfl (s_invV rfl (OB.obj hb hO) rfl rfl) (corner_at hb hO hN hN2 (t := i) (k := 0) hi (by decide) hc0) ?_
      refine pe_go (pc := 75) rfl (s_aald h1 (k := p0) (by omega) (by omega) er0) ?_
      refine pe_go (pc := 76) rfl (s_astore (lv' := [(17, .ref r0), (16, .int (iI 0)), (15, .int (iI 0)), (13, .long (lI 0)), (12, .int (iI (i : Int))), (11, .int (iI at9)), (9, .long (lI be)), (7, .long (lI up)), (6, .int (iI bst)), (5, .int (iI (k : Int))), (4, .int (iI (c : Int))), (3, .ref t), (0, .ref b), (1, .ref a), (2, .int (iI (many : Int)))]) rfl) ?_
      refine pe_go (pc := 78) rfl (s_aload_n rfl) ?_
      refine pe_go (pc := 79) rfl (s_getf (v := .ref pa) h0 rfl) ?_
      refine pe_go (pc := 82) rfl (s_aload_n rfl) ?_
      refine pe_go (pc := 83) rfl (s_iload rfl) ?_
      refine pe_go (pc := 85) rfl (s_iload rfl) ?_
      refine pe_go (pc := 87) rfl (s_iconst (z := 1) rfl) ?_
      refine pe_go (q := (89, [(17, .ref r0), (16, .int (iI 0)), (15, .int (iI 0)), (13, .long (lI 0)), (12, .int (iI (i : Int))), (11, .int (iI at9)), (9, .long (lI be)), (7, .long (lI up)), (6, .int (iI bst)), (5, .int (iI (k : Int))), (4, .int (iI (c : Int))), (3, .ref t), (0, .ref b), (1, .ref a), (2, .int (iI (many : Int)))], [.int (iI 1), .int (iI (i : Int)), .ref t, .ref pa], w)) rfl s_iadd ?_
      refine pe_go (pc := 89) rfl (s_iconst (z := 3) rfl) ?_
      refine pe_go (pc := 90) rfl (s_irem ⟨by decide, by decide⟩ ⟨by decide, by decide⟩ (by decide) (by decide) (show Int.tmod 1 3 = 1 from by decide)) ?_
      refine pe_call rfl (s_invV rfl (OB.obj hb hO) rfl rfl) (corner_at hb hO hN hN2 (t := i) (k := 1) hi (by decide) hc1) ?_
      refine pe_go (pc := 94) rfl (s_aald h1 (k := p1) (by omega) (by omega) er1) ?_
      refine pe_go (pc := 95) rfl (s_astore (lv' := [(18, .ref r1), (17, .ref r0), (16, .int (iI 0)), (15, .int (iI 0)), (13, .long (lI 0)), (12, .int (iI (i : Int))), (11, .int (iI at9)), (9, .long (lI be)), (7, .long (lI up)), (6, .int (iI bst)), (5, .int (iI (k : Int))), (4, .int (iI (c : Int))), (3, .ref t), (0, .ref b), (1, .ref a), (2, .int (iI (many : Int)))]) rfl) ?_
      refine pe_go (pc := 97) rfl (s_aload rfl) ?_
      refine pe_go (pc := 99) rfl (s_iconst (z := 0) rfl) ?_
      refine pe_go (pc := 100) rfl (s_iald (n := 3) (f := row3 (T.xs p0) (T.ys p0) (T.hs p0)) (v := T.xs p0) hr0 (k := 0) (by omega) (by omega) (by decide) rfl) ?_
      refine pe_go (pc := 101) rfl (s_aload rfl) ?_
      refine pe_go (pc := 103) rfl (s_iconst (z := 0) rfl) ?_
      refine pe_go (pc := 104) rfl (s_iald (n := 3) (f := row3 (T.xs p1) (T.ys p1) (T.hs p1)) (v := T.xs p1) hr1 (k := 0) (by omega) (by omega) (by decide) rfl) ?_
      refine pe_go (pc := 105) rfl s_isub ?_
      refine pe_go (pc := 106) rfl (s_aload rfl) ?_
      refine pe_go (pc := 108) rfl (s_iconst (z := 0) rfl) ?_
      refine pe_go (pc := 109) rfl (s_iald (n := 3) (f := row3 (T.xs p0) (T.ys p0) (T.hs p0)) (v := T.xs p0) hr0 (k := 0) (by omega) (by omega) (by decide) rfl) ?_
      refine pe_go (pc := 110) rfl (s_aload rfl) ?_
      refine pe_go (pc := 112) rfl (s_iconst (z := 0) rfl) ?_
      refine pe_go (pc := 113) rfl (s_iald (n := 3) (f := row3 (T.xs p1) (T.ys p1) (T.hs p1)) (v := T.xs p1) hr1 (k := 0) (by omega) (by omega) (by decide) rfl) ?_
      refine pe_go (pc := 114) rfl s_isub ?_
      refine pe_go (pc := 115) rfl s_imul ?_
      refine pe_go (pc := 116) rfl (s_aload rfl) ?_
      refine pe_go (pc := 118) rfl (s_iconst (z := 1) rfl) ?_
      refine pe_go (pc := 119) rfl (s_iald (n := 3) (f := row3 (T.xs p0) (T.ys p0) (T.hs p0)) (v := T.ys p0) hr0 (k := 1) (by omega) (by omega) (by decide) rfl) ?_
      refine pe_go (pc := 120) rfl (s_aload rfl) ?_
      refine pe_go (pc := 122) rfl (s_iconst (z := 1) rfl) ?_
      refine pe_go (pc := 123) rfl (s_iald (n := 3) (f := row3 (T.xs p1) (T.ys p1) (T.hs p1)) (v := T.ys p1) hr1 (k := 1) (by omega) (by omega) (by decide) rfl) ?_
      refine pe_go (pc := 124) rfl s_isub ?_
      refine pe_go (pc := 125) rfl (s_aload rfl) ?_
      refine pe_go (pc := 127) rfl (s_iconst (z := 1) rfl) ?_
      refine pe_go (pc := 128) rfl (s_iald (n := 3) (f := row3 (T.xs p0) (T.ys p0) (T.hs p0)) (v := T.ys p0) hr0 (k := 1) (by omega) (by omega) (by decide) rfl) ?_
      refine pe_go (pc := 129) rfl (s_aload rfl) ?_
      refine pe_go (pc := 131) rfl (s_iconst (z := 1) rfl) ?_
      refine pe_go (pc := 132) rfl (s_iald (n := 3) (f := row3 (T.xs p1) (T.ys p1) (T.hs p1)) (v := T.ys p1) hr1 (k := 1) (by omega) (by omega) (by decide) rfl) ?_
      refine pe_go (pc := 133) rfl s_isub ?_
      refine pe_go (pc := 134) rfl s_imul ?_
      refine pe_go (pc := 135) rfl s_iadd ?_
      show qE 156 (136, _, [.int (iI (T.sq p0 p1))], w) Φ
      rw [g0]
      refine pe_go (pc := 136) rfl (s_i2l ⟨by omega, by omega⟩) ?_
      refine pe_go (pc := 137) rfl (s_lstore (lv' := [(19, .long (lI d0)), (18, .ref r1), (17, .ref r0), (16, .int (iI 0)), (15, .int (iI 0)), (13, .long (lI 0)), (12, .int (iI (i : Int))), (11, .int (iI at9)), (9, .long (lI be)), (7, .long (lI up)), (6, .int (iI bst)), (5, .int (iI (k : Int))), (4, .int (iI (c : Int))), (3, .ref t), (0, .ref b), (1, .ref a), (2, .int (iI (many : Int)))]) rfl) ?_
      refine pe_go (pc := 139) rfl (s_lload rfl) ?_
      refine pe_go (pc := 141) rfl (s_lload rfl) ?_
      refine pe_go rfl (s_lcmp_gt ⟨by omega, by omega⟩ ⟨by omega, by omega⟩ (by omega)) ?_
      refine pe_go rfl (s_if_le_f ⟨by decide, by decide⟩ (by decide)) ?_
      refine pe_go (pc := 147) rfl (s_iload rfl) ?_
      refine pe_go (pc := 149) rfl s_goto ?_
      refine pe_go (pc := 154) rfl (s_istore (lv' := [(15, .int (iI 0)), (19, .long (lI d0)), (18, .ref r1), (17, .ref r0), (16, .int (iI 0)), (13, .long (lI 0)), (12, .int (iI (i : Int))), (11, .int (iI at9)), (9, .long (lI be)), (7, .long (lI up)), (6, .int (iI bst)), (5, .int (iI (k : Int))), (4, .int (iI (c : Int))), (3, .ref t), (0, .ref b), (1, .ref a), (2, .int (iI (many : Int)))]) rfl) ?_
      refine pe_go (pc := 156) rfl (s_lload rfl) ?_
      refine pe_go (pc := 158) rfl (s_lload rfl) ?_
      refine pe_call rfl (s_invS rfl rfl rfl) (c_maxL (x := 0) (y := d0) ⟨by omega, by omega⟩ ⟨by omega, by omega⟩) ?_
      rw [zmL_lt (by omega)]
      refine pe_go (pc := 163) rfl (s_lstore (lv' := [(13, .long (lI d0)), (15, .int (iI 0)), (19, .long (lI d0)), (18, .ref r1), (17, .ref r0), (16, .int (iI 0)), (12, .int (iI (i : Int))), (11, .int (iI at9)), (9, .long (lI be)), (7, .long (lI up)), (6, .int (iI bst)), (5, .int (iI (k : Int))), (4, .int (iI (c : Int))), (3, .ref t), (0, .ref b), (1, .ref a), (2, .int (iI (many : Int)))]) rfl) ?_
      refine pe_go (pc := 165) rfl (s_iinc (x := 0) (y := 1) rfl (by omega) (lv' := [(16, .int (iI 1)), (13, .long (lI d0)), (15, .int (iI 0)), (19, .long (lI d0)), (18, .ref r1), (17, .ref r0), (12, .int (iI (i : Int))), (11, .int (iI at9)), (9, .long (lI be)), (7, .long (lI up)), (6, .int (iI bst)), (5, .int (iI (k : Int))), (4, .int (iI (c : Int))), (3, .ref t), (0, .ref b), (1, .ref a), (2, .int (iI (many : Int)))]) rfl) ?_
      refine pe_go (pc := 168) rfl s_goto ?_
      refine pe_go (pc := 57) rfl (s_iload rfl) ?_
      refine pe_go (pc := 59) rfl (s_iconst (z := 3) rfl) ?_
      refine pe_go rfl (s_icmp_ge_f ⟨by decide, by decide⟩ ⟨by decide, by decide⟩ (by decide)) ?_
      refine pe_go (pc := 63) rfl (s_aload_n rfl) ?_
      refine pe_go (pc := 64) rfl (s_getf (v := .ref pa) h0 rfl) ?_
      refine pe_go (pc := 67) rfl (s_aload_n rfl) ?_
      refine pe_go (pc := 68) rfl (s_iload rfl) ?_
      refine pe_go (pc := 70) rfl (s_iload rfl) ?_
      refine pe_call rfl (s_invV rfl (OB.obj hb hO) rfl rfl) (corner_at hb hO hN hN2 (t := i) (k := 1) hi (by decide) hc1) ?_
      refine pe_go (pc := 75) rfl (s_aald h1 (k := p1) (by omega) (by omega) er1) ?_
      refine pe_go (pc := 76) rfl (s_astore (lv' := [(17, .ref r1), (16, .int (iI 1)), (13, .long (lI d0)), (15, .int (iI 0)), (19, .long (lI d0)), (18, .ref r1), (12, .int (iI (i : Int))), (11, .int (iI at9)), (9, .long (lI be)), (7, .long (lI up)), (6, .int (iI bst)), (5, .int (iI (k : Int))), (4, .int (iI (c : Int))), (3, .ref t), (0, .ref b), (1, .ref a), (2, .int (iI (many : Int)))]) rfl) ?_
      refine pe_go (pc := 78) rfl (s_aload_n rfl) ?_
      refine pe_go (pc := 79) rfl (s_getf (v := .ref pa) h0 rfl) ?_
      refine pe_go (pc := 82) rfl (s_aload_n rfl) ?_
      refine pe_go (pc := 83) rfl (s_iload rfl) ?_
      refine pe_go (pc := 85) rfl (s_iload rfl) ?_
      refine pe_go (pc := 87) rfl (s_iconst (z := 1) rfl) ?_
      refine pe_go (q := (89, [(17, .ref r1), (16, .int (iI 1)), (13, .long (lI d0)), (15, .int (iI 0)), (19, .long (lI d0)), (18, .ref r1), (12, .int (iI (i : Int))), (11, .int (iI at9)), (9, .long (lI be)), (7, .long (lI up)), (6, .int (iI bst)), (5, .int (iI (k : Int))), (4, .int (iI (c : Int))), (3, .ref t), (0, .ref b), (1, .ref a), (2, .int (iI (many : Int)))], [.int (iI 2), .int (iI (i : Int)), .ref t, .ref pa], w)) rfl s_iadd ?_
      refine pe_go (pc := 89) rfl (s_iconst (z := 3) rfl) ?_
      refine pe_go (pc := 90) rfl (s_irem ⟨by decide, by decide⟩ ⟨by decide, by decide⟩ (by decide) (by decide) (show Int.tmod 2 3 = 2 from by decide)) ?_
      refine pe_call rfl (s_invV rfl (OB.obj hb hO) rfl rfl) (corner_at hb hO hN hN2 (t := i) (k := 2) hi (by decide) hc2) ?_
      refine pe_go (pc := 94) rfl (s_aald h1 (k := p2) (by omega) (by omega) er2) ?_
      refine pe_go (pc := 95) rfl (s_astore (lv' := [(18, .ref r2), (17, .ref r1), (16, .int (iI 1)), (13, .long (lI d0)), (15, .int (iI 0)), (19, .long (lI d0)), (12, .int (iI (i : Int))), (11, .int (iI at9)), (9, .long (lI be)), (7, .long (lI up)), (6, .int (iI bst)), (5, .int (iI (k : Int))), (4, .int (iI (c : Int))), (3, .ref t), (0, .ref b), (1, .ref a), (2, .int (iI (many : Int)))]) rfl) ?_
      refine pe_go (pc := 97) rfl (s_aload rfl) ?_
      refine pe_go (pc := 99) rfl (s_iconst (z := 0) rfl) ?_
      refine pe_go (pc := 100) rfl (s_iald (n := 3) (f := row3 (T.xs p1) (T.ys p1) (T.hs p1)) (v := T.xs p1) hr1 (k := 0) (by omega) (by omega) (by decide) rfl) ?_
      refine pe_go (pc := 101) rfl (s_aload rfl) ?_
      refine pe_go (pc := 103) rfl (s_iconst (z := 0) rfl) ?_
      refine pe_go (pc := 104) rfl (s_iald (n := 3) (f := row3 (T.xs p2) (T.ys p2) (T.hs p2)) (v := T.xs p2) hr2 (k := 0) (by omega) (by omega) (by decide) rfl) ?_
      refine pe_go (pc := 105) rfl s_isub ?_
      refine pe_go (pc := 106) rfl (s_aload rfl) ?_
      refine pe_go (pc := 108) rfl (s_iconst (z := 0) rfl) ?_
      refine pe_go (pc := 109) rfl (s_iald (n := 3) (f := row3 (T.xs p1) (T.ys p1) (T.hs p1)) (v := T.xs p1) hr1 (k := 0) (by omega) (by omega) (by decide) rfl) ?_
      refine pe_go (pc := 110) rfl (s_aload rfl) ?_
      refine pe_go (pc := 112) rfl (s_iconst (z := 0) rfl) ?_
      refine pe_go (pc := 113) rfl (s_iald (n := 3) (f := row3 (T.xs p2) (T.ys p2) (T.hs p2)) (v := T.xs p2) hr2 (k := 0) (by omega) (by omega) (by decide) rfl) ?_
      refine pe_go (pc := 114) rfl s_isub ?_
      refine pe_go (pc := 115) rfl s_imul ?_
      refine pe_go (pc := 116) rfl (s_aload rfl) ?_
      refine pe_go (pc := 118) rfl (s_iconst (z := 1) rfl) ?_
      refine pe_go (pc := 119) rfl (s_iald (n := 3) (f := row3 (T.xs p1) (T.ys p1) (T.hs p1)) (v := T.ys p1) hr1 (k := 1) (by omega) (by omega) (by decide) rfl) ?_
      refine pe_go (pc := 120) rfl (s_aload rfl) ?_
      refine pe_go (pc := 122) rfl (s_iconst (z := 1) rfl) ?_
      refine pe_go (pc := 123) rfl (s_iald (n := 3) (f := row3 (T.xs p2) (T.ys p2) (T.hs p2)) (v := T.ys p2) hr2 (k := 1) (by omega) (by omega) (by decide) rfl) ?_
      refine pe_go (pc := 124) rfl s_isub ?_
      refine pe_go (pc := 125) rfl (s_aload rfl) ?_
      refine pe_go (pc := 127) rfl (s_iconst (z := 1) rfl) ?_
      refine pe_go (pc := 128) rfl (s_iald (n := 3) (f := row3 (T.xs p1) (T.ys p1) (T.hs p1)) (v := T.ys p1) hr1 (k := 1) (by omega) (by omega) (by decide) rfl) ?_
      refine pe_go (pc := 129) rfl (s_aload rfl) ?_
      refine pe_go (pc := 131) rfl (s_iconst (z := 1) rfl) ?_
      refine pe_go (pc := 132) rfl (s_iald (n := 3) (f := row3 (T.xs p2) (T.ys p2) (T.hs p2)) (v := T.ys p2) hr2 (k := 1) (by omega) (by omega) (by decide) rfl) ?_
      refine pe_go (pc := 133) rfl s_isub ?_
      refine pe_go (pc := 134) rfl s_imul ?_
      refine pe_go (pc := 135) rfl s_iadd ?_
      show qE 156 (136, _, [.int (iI (T.sq p1 p2))], w) Φ
      rw [g1]
      refine pe_go (pc := 136) rfl (s_i2l ⟨by omega, by omega⟩) ?_
      refine pe_go (pc := 137) rfl (s_lstore (lv' := [(19, .long (lI d1)), (18, .ref r2), (17, .ref r1), (16, .int (iI 1)), (13, .long (lI d0)), (15, .int (iI 0)), (12, .int (iI (i : Int))), (11, .int (iI at9)), (9, .long (lI be)), (7, .long (lI up)), (6, .int (iI bst)), (5, .int (iI (k : Int))), (4, .int (iI (c : Int))), (3, .ref t), (0, .ref b), (1, .ref a), (2, .int (iI (many : Int)))]) rfl) ?_
      refine pe_go (pc := 139) rfl (s_lload rfl) ?_
      refine pe_go (pc := 141) rfl (s_lload rfl) ?_
      refine pe_go rfl (s_lcmp_gt ⟨by omega, by omega⟩ ⟨by omega, by omega⟩ c1) ?_
      refine pe_go rfl (s_if_le_f ⟨by decide, by decide⟩ (by decide)) ?_
      refine pe_go (pc := 147) rfl (s_iload rfl) ?_
      refine pe_go (pc := 149) rfl s_goto ?_
      refine pe_go (pc := 154) rfl (s_istore (lv' := [(15, .int (iI 1)), (19, .long (lI d1)), (18, .ref r2), (17, .ref r1), (16, .int (iI 1)), (13, .long (lI d0)), (12, .int (iI (i : Int))), (11, .int (iI at9)), (9, .long (lI be)), (7, .long (lI up)), (6, .int (iI bst)), (5, .int (iI (k : Int))), (4, .int (iI (c : Int))), (3, .ref t), (0, .ref b), (1, .ref a), (2, .int (iI (many : Int)))]) rfl) ?_
      refine pe_go (pc := 156) rfl (s_lload rfl) ?_
      refine pe_go (pc := 158) rfl (s_lload rfl) ?_
      refine pe_call rfl (s_invS rfl rfl rfl) (c_maxL (x := d0) (y := d1) ⟨by omega, by omega⟩ ⟨by omega, by omega⟩) ?_
      rw [zmL_lt (by omega)]
      refine pe_go (pc := 163) rfl (s_lstore (lv' := [(13, .long (lI d1)), (15, .int (iI 1)), (19, .long (lI d1)), (18, .ref r2), (17, .ref r1), (16, .int (iI 1)), (12, .int (iI (i : Int))), (11, .int (iI at9)), (9, .long (lI be)), (7, .long (lI up)), (6, .int (iI bst)), (5, .int (iI (k : Int))), (4, .int (iI (c : Int))), (3, .ref t), (0, .ref b), (1, .ref a), (2, .int (iI (many : Int)))]) rfl) ?_
      refine pe_go (pc := 165) rfl (s_iinc (x := 1) (y := 2) rfl (by omega) (lv' := [(16, .int (iI 2)), (13, .long (lI d1)), (15, .int (iI 1)), (19, .long (lI d1)), (18, .ref r2), (17, .ref r1), (12, .int (iI (i : Int))), (11, .int (iI at9)), (9, .long (lI be)), (7, .long (lI up)), (6, .int (iI bst)), (5, .int (iI (k : Int))), (4, .int (iI (c : Int))), (3, .ref t), (0, .ref b), (1, .ref a), (2, .int (iI (many : Int)))]) rfl) ?_
      refine pe_go (pc := 168) rfl s_goto ?_
      refine pe_go (pc := 57) rfl (s_iload rfl) ?_
      refine pe_go (pc := 59) rfl (s_iconst (z := 3) rfl) ?_
      refine pe_go rfl (s_icmp_ge_f ⟨by decide, by decide⟩ ⟨by decide, by decide⟩ (by decide)) ?_
      refine pe_go (pc := 63) rfl (s_aload_n rfl) ?_
      refine pe_go (pc := 64) rfl (s_getf (v := .ref pa) h0 rfl) ?_
      refine pe_go (pc := 67) rfl (s_aload_n rfl) ?_
      refine pe_go (pc := 68) rfl (s_iload rfl) ?_
      refine pe_go (pc := 70) rfl (s_iload rfl) ?_
      refine pe_call rfl (s_invV rfl (OB.obj hb hO) rfl rfl) (corner_at hb hO hN hN2 (t := i) (k := 2) hi (by decide) hc2) ?_
      refine pe_go (pc := 75) rfl (s_aald h1 (k := p2) (by omega) (by omega) er2) ?_
      refine pe_go (pc := 76) rfl (s_astore (lv' := [(17, .ref r2), (16, .int (iI 2)), (13, .long (lI d1)), (15, .int (iI 1)), (19, .long (lI d1)), (18, .ref r2), (12, .int (iI (i : Int))), (11, .int (iI at9)), (9, .long (lI be)), (7, .long (lI up)), (6, .int (iI bst)), (5, .int (iI (k : Int))), (4, .int (iI (c : Int))), (3, .ref t), (0, .ref b), (1, .ref a), (2, .int (iI (many : Int)))]) rfl) ?_
      refine pe_go (pc := 78) rfl (s_aload_n rfl) ?_
      refine pe_go (pc := 79) rfl (s_getf (v := .ref pa) h0 rfl) ?_
      refine pe_go (pc := 82) rfl (s_aload_n rfl) ?_
      refine pe_go (pc := 83) rfl (s_iload rfl) ?_
      refine pe_go (pc := 85) rfl (s_iload rfl) ?_
      refine pe_go (pc := 87) rfl (s_iconst (z := 1) rfl) ?_
      refine pe_go (q := (89, [(17, .ref r2), (16, .int (iI 2)), (13, .long (lI d1)), (15, .int (iI 1)), (19, .long (lI d1)), (18, .ref r2), (12, .int (iI (i : Int))), (11, .int (iI at9)), (9, .long (lI be)), (7, .long (lI up)), (6, .int (iI bst)), (5, .int (iI (k : Int))), (4, .int (iI (c : Int))), (3, .ref t), (0, .ref b), (1, .ref a), (2, .int (iI (many : Int)))], [.int (iI 3), .int (iI (i : Int)), .ref t, .ref pa], w)) rfl s_iadd ?_
      refine pe_go (pc := 89) rfl (s_iconst (z := 3) rfl) ?_
      refine pe_go (pc := 90) rfl (s_irem ⟨by decide, by decide⟩ ⟨by decide, by decide⟩ (by decide) (by decide) (show Int.tmod 3 3 = 0 from by decide)) ?_
      refine pe_call rfl (s_invV rfl (OB.obj hb hO) rfl rfl) (corner_at hb hO hN hN2 (t := i) (k := 0) hi (by decide) hc0) ?_
      refine pe_go (pc := 94) rfl (s_aald h1 (k := p0) (by omega) (by omega) er0) ?_
      refine pe_go (pc := 95) rfl (s_astore (lv' := [(18, .ref r0), (17, .ref r2), (16, .int (iI 2)), (13, .long (lI d1)), (15, .int (iI 1)), (19, .long (lI d1)), (12, .int (iI (i : Int))), (11, .int (iI at9)), (9, .long (lI be)), (7, .long (lI up)), (6, .int (iI bst)), (5, .int (iI (k : Int))), (4, .int (iI (c : Int))), (3, .ref t), (0, .ref b), (1, .ref a), (2, .int (iI (many : Int)))]) rfl) ?_
      refine pe_go (pc := 97) rfl (s_aload rfl) ?_
      refine pe_go (pc := 99) rfl (s_iconst (z := 0) rfl) ?_
      refine pe_go (pc := 100) rfl (s_iald (n := 3) (f := row3 (T.xs p2) (T.ys p2) (T.hs p2)) (v := T.xs p2) hr2 (k := 0) (by omega) (by omega) (by decide) rfl) ?_
      refine pe_go (pc := 101) rfl (s_aload rfl) ?_
      refine pe_go (pc := 103) rfl (s_iconst (z := 0) rfl) ?_
      refine pe_go (pc := 104) rfl (s_iald (n := 3) (f := row3 (T.xs p0) (T.ys p0) (T.hs p0)) (v := T.xs p0) hr0 (k := 0) (by omega) (by omega) (by decide) rfl) ?_
      refine pe_go (pc := 105) rfl s_isub ?_
      refine pe_go (pc := 106) rfl (s_aload rfl) ?_
      refine pe_go (pc := 108) rfl (s_iconst (z := 0) rfl) ?_
      refine pe_go (pc := 109) rfl (s_iald (n := 3) (f := row3 (T.xs p2) (T.ys p2) (T.hs p2)) (v := T.xs p2) hr2 (k := 0) (by omega) (by omega) (by decide) rfl) ?_
      refine pe_go (pc := 110) rfl (s_aload rfl) ?_
      refine pe_go (pc := 112) rfl (s_iconst (z := 0) rfl) ?_
      refine pe_go (pc := 113) rfl (s_iald (n := 3) (f := row3 (T.xs p0) (T.ys p0) (T.hs p0)) (v := T.xs p0) hr0 (k := 0) (by omega) (by omega) (by decide) rfl) ?_
      refine pe_go (pc := 114) rfl s_isub ?_
      refine pe_go (pc := 115) rfl s_imul ?_
      refine pe_go (pc := 116) rfl (s_aload rfl) ?_
      refine pe_go (pc := 118) rfl (s_iconst (z := 1) rfl) ?_
      refine pe_go (pc := 119) rfl (s_iald (n := 3) (f := row3 (T.xs p2) (T.ys p2) (T.hs p2)) (v := T.ys p2) hr2 (k := 1) (by omega) (by omega) (by decide) rfl) ?_
      refine pe_go (pc := 120) rfl (s_aload rfl) ?_
      refine pe_go (pc := 122) rfl (s_iconst (z := 1) rfl) ?_
      refine pe_go (pc := 123) rfl (s_iald (n := 3) (f := row3 (T.xs p0) (T.ys p0) (T.hs p0)) (v := T.ys p0) hr0 (k := 1) (by omega) (by omega) (by decide) rfl) ?_
      refine pe_go (pc := 124) rfl s_isub ?_
      refine pe_go (pc := 125) rfl (s_aload rfl) ?_
      refine pe_go (pc := 127) rfl (s_iconst (z := 1) rfl) ?_
      refine pe_go (pc := 128) rfl (s_iald (n := 3) (f := row3 (T.xs p2) (T.ys p2) (T.hs p2)) (v := T.ys p2) hr2 (k := 1) (by omega) (by omega) (by decide) rfl) ?_
      refine pe_go (pc := 129) rfl (s_aload rfl) ?_
      refine pe_go (pc := 131) rfl (s_iconst (z := 1) rfl) ?_
      refine pe_go (pc := 132) rfl (s_iald (n := 3) (f := row3 (T.xs p0) (T.ys p0) (T.hs p0)) (v := T.ys p0) hr0 (k := 1) (by omega) (by omega) (by decide) rfl) ?_
      refine pe_go (pc := 133) rfl s_isub ?_
      refine pe_go (pc := 134) rfl s_imul ?_
      refine pe_go (pc := 135) rfl s_iadd ?_
      show qE 156 (136, _, [.int (iI (T.sq p2 p0))], w) Φ
      rw [g2]
      refine pe_go (pc := 136) rfl (s_i2l ⟨by omega, by omega⟩) ?_
      refine pe_go (pc := 137) rfl (s_lstore (lv' := [(19, .long (lI d2)), (18, .ref r0), (17, .ref r2), (16, .int (iI 2)), (13, .long (lI d1)), (15, .int (iI 1)), (12, .int (iI (i : Int))), (11, .int (iI at9)), (9, .long (lI be)), (7, .long (lI up)), (6, .int (iI bst)), (5, .int (iI (k : Int))), (4, .int (iI (c : Int))), (3, .ref t), (0, .ref b), (1, .ref a), (2, .int (iI (many : Int)))]) rfl) ?_
      refine pe_go (pc := 139) rfl (s_lload rfl) ?_
      refine pe_go (pc := 141) rfl (s_lload rfl) ?_
      refine pe_go rfl (s_lcmp_eq c2) ?_
      refine pe_go rfl (s_if_le_t ⟨by decide, by decide⟩ (by decide)) ?_
      refine pe_go (pc := 152) rfl (s_iload rfl) ?_
      refine pe_go (pc := 154) rfl (s_istore (lv' := [(15, .int (iI 1)), (19, .long (lI d2)), (18, .ref r0), (17, .ref r2), (16, .int (iI 2)), (13, .long (lI d1)), (12, .int (iI (i : Int))), (11, .int (iI at9)), (9, .long (lI be)), (7, .long (lI up)), (6, .int (iI bst)), (5, .int (iI (k : Int))), (4, .int (iI (c : Int))), (3, .ref t), (0, .ref b), (1, .ref a), (2, .int (iI (many : Int)))]) rfl) ?_
      refine pe_go (pc := 156) rfl (s_lload rfl) ?_
      refine pe_go (pc := 158) rfl (s_lload rfl) ?_
      refine pe_call rfl (s_invS rfl rfl rfl) (c_maxL (x := d1) (y := d2) ⟨by omega, by omega⟩ ⟨by omega, by omega⟩) ?_
      rw [zmL_ge (by omega)]
      refine pe_go (pc := 163) rfl (s_lstore (lv' := [(13, .long (lI d1)), (15, .int (iI 1)), (19, .long (lI d2)), (18, .ref r0), (17, .ref r2), (16, .int (iI 2)), (12, .int (iI (i : Int))), (11, .int (iI at9)), (9, .long (lI be)), (7, .long (lI up)), (6, .int (iI bst)), (5, .int (iI (k : Int))), (4, .int (iI (c : Int))), (3, .ref t), (0, .ref b), (1, .ref a), (2, .int (iI (many : Int)))]) rfl) ?_
      refine pe_go (pc := 165) rfl (s_iinc (x := 2) (y := 3) rfl (by omega) (lv' := [(16, .int (iI 3)), (13, .long (lI d1)), (15, .int (iI 1)), (19, .long (lI d2)), (18, .ref r0), (17, .ref r2), (12, .int (iI (i : Int))), (11, .int (iI at9)), (9, .long (lI be)), (7, .long (lI up)), (6, .int (iI bst)), (5, .int (iI (k : Int))), (4, .int (iI (c : Int))), (3, .ref t), (0, .ref b), (1, .ref a), (2, .int (iI (many : Int)))]) rfl) ?_
      refine pe_go (pc := 168) rfl s_goto ?_
      refine pe_go (pc := 57) rfl (s_iload rfl) ?_
      refine pe_go (pc := 59) rfl (s_iconst (z := 3) rfl) ?_
      refine pe_go rfl (s_icmp_ge_t ⟨by decide, by decide⟩ ⟨by decide, by decide⟩ (by decide)) ?_
      refine pe_few (lv := [(15, .int (iI ((1 : Nat) : Int))), (13, .long (lI d1)), (12, .int (iI (i : Int))), (11, .int (iI at9)), (9, .long (lI be)), (7, .long (lI up)), (6, .int (iI bst)), (5, .int (iI (k : Int))), (4, .int (iI (c : Int))), (3, .ref t), (0, .ref b), (1, .ref a), (2, .int (iI (many : Int)))]) rfl rfl (by intro q hq; simp only [List.mem_cons, List.not_mem_nil, or_false] at hq; rcases hq with rfl | rfl | rfl | rfl | rfl | rfl | rfl | rfl | rfl | rfl | rfl | rfl | rfl <;> rfl) ?_
      exact KK d1 1 (by show _ = T.qs i (T.lgs i); rw [hlg]; (repeat' split) <;> first | omega | (first | rw [hq0] | rw [hq1] | rw [hq2]) <;> omega) (by rw [hlg]; (repeat' split) <;> omega)
    · skip
      refine pe_go (pc := 48) rfl s_lconst0 ?_
      refine pe_go (pc := 49) rfl (s_lstore (lv' := [(13, .long (lI 0)), (12, .int (iI (i : Int))), (11, .int (iI at9)), (9, .long (lI be)), (7, .long (lI up)), (6, .int (iI bst)), (5, .int (iI (k : Int))), (4, .int (iI (c : Int))), (3, .ref t), (0, .ref b), (1, .ref a), (2, .int (iI (many : Int)))]) rfl) ?_
      refine pe_go (pc := 51) rfl (s_iconst (z := 0) rfl) ?_
      refine pe_go (pc := 52) rfl (s_istore (lv' := [(15, .int (iI 0)), (13, .long (lI 0)), (12, .int (iI (i : Int))), (11, .int (iI at9)), (9, .long (lI be)), (7, .long (lI up)), (6, .int (iI bst)), (5, .int (iI (k : Int))), (4, .int (iI (c : Int))), (3, .ref t), (0, .ref b), (1, .ref a), (2, .int (iI (many : Int)))]) rfl) ?_
      refine pe_go (pc := 54) rfl (s_iconst (z := 0) rfl) ?_
      refine pe_go (pc := 55) rfl (s_istore (lv' := [(16, .int (iI 0)), (15, .int (iI 0)), (13, .long (lI 0)), (12, .int (iI (i : Int))), (11, .int (iI at9)), (9, .long (lI be)), (7, .long (lI up)), (6, .int (iI bst)), (5, .int (iI (k : Int))), (4, .int (iI (c : Int))), (3, .ref t), (0, .ref b), (1, .ref a), (2, .int (iI (many : Int)))]) rfl) ?_
      refine pe_go (pc := 57) rfl (s_iload rfl) ?_
      refine pe_go (pc := 59) rfl (s_iconst (z := 3) rfl) ?_
      refine pe_go rfl (s_icmp_ge_f ⟨by decide, by decide⟩ ⟨by decide, by decide⟩ (by decide)) ?_
      refine pe_go (pc := 63) rfl (s_aload_n rfl) ?_
      refine pe_go (pc := 64) rfl (s_getf (v := .ref pa) h0 rfl) ?_
      refine pe_go (pc := 67) rfl (s_aload_n rfl) ?_
      refine pe_go (pc := 68) rfl (s_iload rfl) ?_
      refine pe_go (pc := 70) rfl (s_iload rfl) ?_
      refine pe_call rfl (s_invV rfl (OB.obj hb hO) rfl rfl) (corner_at hb hO hN hN2 (t := i) (k := 0) hi (by decide) hc0) ?_
      refine pe_go (pc := 75) rfl (s_aald h1 (k := p0) (by omega) (by omega) er0) ?_
      refine pe_go (pc := 76) rfl (s_astore (lv' := [(17, .ref r0), (16, .int (iI 0)), (15, .int (iI 0)), (13, .long (lI 0)), (12, .int (iI (i : Int))), (11, .int (iI at9)), (9, .long (lI be)), (7, .long (lI up)), (6, .int (iI bst)), (5, .int (iI (k : Int))), (4, .int (iI (c : Int))), (3, .ref t), (0, .ref b), (1, .ref a), (2, .int (iI (many : Int)))]) rfl) ?_
      refine pe_go (pc := 78) rfl (s_aload_n rfl) ?_
      refine pe_go (pc := 79) rfl (s_getf (v := .ref pa) h0 rfl) ?_
      refine pe_go (pc := 82) rfl (s_aload_n rfl) ?_
      refine pe_go (pc := 83) rfl (s_iload rfl) ?_
      refine pe_go (pc := 85) rfl (s_iload rfl) ?_
      refine pe_go (pc := 87) rfl (s_iconst (z := 1) rfl) ?_
      refine pe_go (q := (89, [(17, .ref r0), (16, .int (iI 0)), (15, .int (iI 0)), (13, .long (lI 0)), (12, .int (iI (i : Int))), (11, .int (iI at9)), (9, .long (lI be)), (7, .long (lI up)), (6, .int (iI bst)), (5, .int (iI (k : Int))), (4, .int (iI (c : Int))), (3, .ref t), (0, .ref b), (1, .ref a), (2, .int (iI (many : Int)))], [.int (iI 1), .int (iI (i : Int)), .ref t, .ref pa], w)) rfl s_iadd ?_
      refine pe_go (pc := 89) rfl (s_iconst (z := 3) rfl) ?_
      refine pe_go (pc := 90) rfl (s_irem ⟨by decide, by decide⟩ ⟨by decide, by decide⟩ (by decide) (by decide) (show Int.tmod 1 3 = 1 from by decide)) ?_
      refine pe_call rfl (s_invV rfl (OB.obj hb hO) rfl rfl) (corner_at hb hO hN hN2 (t := i) (k := 1) hi (by decide) hc1) ?_
      refine pe_go (pc := 94) rfl (s_aald h1 (k := p1) (by omega) (by omega) er1) ?_
      refine pe_go (pc := 95) rfl (s_astore (lv' := [(18, .ref r1), (17, .ref r0), (16, .int (iI 0)), (15, .int (iI 0)), (13, .long (lI 0)), (12, .int (iI (i : Int))), (11, .int (iI at9)), (9, .long (lI be)), (7, .long (lI up)), (6, .int (iI bst)), (5, .int (iI (k : Int))), (4, .int (iI (c : Int))), (3, .ref t), (0, .ref b), (1, .ref a), (2, .int (iI (many : Int)))]) rfl) ?_
      refine pe_go (pc := 97) rfl (s_aload rfl) ?_
      refine pe_go (pc := 99) rfl (s_iconst (z := 0) rfl) ?_
      refine pe_go (pc := 100) rfl (s_iald (n := 3) (f := row3 (T.xs p0) (T.ys p0) (T.hs p0)) (v := T.xs p0) hr0 (k := 0) (by omega) (by omega) (by decide) rfl) ?_
      refine pe_go (pc := 101) rfl (s_aload rfl) ?_
      refine pe_go (pc := 103) rfl (s_iconst (z := 0) rfl) ?_
      refine pe_go (pc := 104) rfl (s_iald (n := 3) (f := row3 (T.xs p1) (T.ys p1) (T.hs p1)) (v := T.xs p1) hr1 (k := 0) (by omega) (by omega) (by decide) rfl) ?_
      refine pe_go (pc := 105) rfl s_isub ?_
      refine pe_go (pc := 106) rfl (s_aload rfl) ?_
      refine pe_go (pc := 108) rfl (s_iconst (z := 0) rfl) ?_
      refine pe_go (pc := 109) rfl (s_iald (n := 3) (f := row3 (T.xs p0) (T.ys p0) (T.hs p0)) (v := T.xs p0) hr0 (k := 0) (by omega) (by omega) (by decide) rfl) ?_
      refine pe_go (pc := 110) rfl (s_aload rfl) ?_
      refine pe_go (pc := 112) rfl (s_iconst (z := 0) rfl) ?_
      refine pe_go (pc := 113) rfl (s_iald (n := 3) (f := row3 (T.xs p1) (T.ys p1) (T.hs p1)) (v := T.xs p1) hr1 (k := 0) (by omega) (by omega) (by decide) rfl) ?_
      refine pe_go (pc := 114) rfl s_isub ?_
      refine pe_go (pc := 115) rfl s_imul ?_
      refine pe_go (pc := 116) rfl (s_aload rfl) ?_
      refine pe_go (pc := 118) rfl (s_iconst (z := 1) rfl) ?_
      refine pe_go (pc := 119) rfl (s_iald (n := 3) (f := row3 (T.xs p0) (T.ys p0) (T.hs p0)) (v := T.ys p0) hr0 (k := 1) (by omega) (by omega) (by decide) rfl) ?_
      refine pe_go (pc := 120) rfl (s_aload rfl) ?_
      refine pe_go (pc := 122) rfl (s_iconst (z := 1) rfl) ?_
      refine pe_go (pc := 123) rfl (s_iald (n := 3) (f := row3 (T.xs p1) (T.ys p1) (T.hs p1)) (v := T.ys p1) hr1 (k := 1) (by omega) (by omega) (by decide) rfl) ?_
      refine pe_go (pc := 124) rfl s_isub ?_
      refine pe_go (pc := 125) rfl (s_aload rfl) ?_
      refine pe_go (pc := 127) rfl (s_iconst (z := 1) rfl) ?_
      refine pe_go (pc := 128) rfl (s_iald (n := 3) (f := row3 (T.xs p0) (T.ys p0) (T.hs p0)) (v := T.ys p0) hr0 (k := 1) (by omega) (by omega) (by decide) rfl) ?_
      refine pe_go (pc := 129) rfl (s_aload rfl) ?_
      refine pe_go (pc := 131) rfl (s_iconst (z := 1) rfl) ?_
      refine pe_go (pc := 132) rfl (s_iald (n := 3) (f := row3 (T.xs p1) (T.ys p1) (T.hs p1)) (v := T.ys p1) hr1 (k := 1) (by omega) (by omega) (by decide) rfl) ?_
      refine pe_go (pc := 133) rfl s_isub ?_
      refine pe_go (pc := 134) rfl s_imul ?_
      refine pe_go (pc := 135) rfl s_iadd ?_
      show qE 156 (136, _, [.int (iI (T.sq p0 p1))], w) Φ
      rw [g0]
      refine pe_go (pc := 136) rfl (s_i2l ⟨by omega, by omega⟩) ?_
      refine pe_go (pc := 137) rfl (s_lstore (lv' := [(19, .long (lI d0)), (18, .ref r1), (17, .ref r0), (16, .int (iI 0)), (15, .int (iI 0)), (13, .long (lI 0)), (12, .int (iI (i : Int))), (11, .int (iI at9)), (9, .long (lI be)), (7, .long (lI up)), (6, .int (iI bst)), (5, .int (iI (k : Int))), (4, .int (iI (c : Int))), (3, .ref t), (0, .ref b), (1, .ref a), (2, .int (iI (many : Int)))]) rfl) ?_
      refine pe_go (pc := 139) rfl (s_lload rfl) ?_
      refine pe_go (pc := 141) rfl (s_lload rfl) ?_
      refine pe_go rfl (s_lcmp_gt ⟨by omega, by omega⟩ ⟨by omega, by omega⟩ (by omega)) ?_
      refine pe_go rfl (s_if_le_f ⟨by decide, by decide⟩ (by decide)) ?_
      refine pe_go (pc := 147) rfl (s_iload rfl) ?_
      refine pe_go (pc := 149) rfl s_goto ?_
      refine pe_go (pc := 154) rfl (s_istore (lv' := [(15, .int (iI 0)), (19, .long (lI d0)), (18, .ref r1), (17, .ref r0), (16, .int (iI 0)), (13, .long (lI 0)), (12, .int (iI (i : Int))), (11, .int (iI at9)), (9, .long (lI be)), (7, .long (lI up)), (6, .int (iI bst)), (5, .int (iI (k : Int))), (4, .int (iI (c : Int))), (3, .ref t), (0, .ref b), (1, .ref a), (2, .int (iI (many : Int)))]) rfl) ?_
      refine pe_go (pc := 156) rfl (s_lload rfl) ?_
      refine pe_go (pc := 158) rfl (s_lload rfl) ?_
      refine pe_call rfl (s_invS rfl rfl rfl) (c_maxL (x := 0) (y := d0) ⟨by omega, by omega⟩ ⟨by omega, by omega⟩) ?_
      rw [zmL_lt (by omega)]
      refine pe_go (pc := 163) rfl (s_lstore (lv' := [(13, .long (lI d0)), (15, .int (iI 0)), (19, .long (lI d0)), (18, .ref r1), (17, .ref r0), (16, .int (iI 0)), (12, .int (iI (i : Int))), (11, .int (iI at9)), (9, .long (lI be)), (7, .long (lI up)), (6, .int (iI bst)), (5, .int (iI (k : Int))), (4, .int (iI (c : Int))), (3, .ref t), (0, .ref b), (1, .ref a), (2, .int (iI (many : Int)))]) rfl) ?_
      refine pe_go (pc := 165) rfl (s_iinc (x := 0) (y := 1) rfl (by omega) (lv' := [(16, .int (iI 1)), (13, .long (lI d0)), (15, .int (iI 0)), (19, .long (lI d0)), (18, .ref r1), (17, .ref r0), (12, .int (iI (i : Int))), (11, .int (iI at9)), (9, .long (lI be)), (7, .long (lI up)), (6, .int (iI bst)), (5, .int (iI (k : Int))), (4, .int (iI (c : Int))), (3, .ref t), (0, .ref b), (1, .ref a), (2, .int (iI (many : Int)))]) rfl) ?_
      refine pe_go (pc := 168) rfl s_goto ?_
      refine pe_go (pc := 57) rfl (s_iload rfl) ?_
      refine pe_go (pc := 59) rfl (s_iconst (z := 3) rfl) ?_
      refine pe_go rfl (s_icmp_ge_f ⟨by decide, by decide⟩ ⟨by decide, by decide⟩ (by decide)) ?_
      refine pe_go (pc := 63) rfl (s_aload_n rfl) ?_
      refine pe_go (pc := 64) rfl (s_getf (v := .ref pa) h0 rfl) ?_
      refine pe_go (pc := 67) rfl (s_aload_n rfl) ?_
      refine pe_go (pc := 68) rfl (s_iload rfl) ?_
      refine pe_go (pc := 70) rfl (s_iload rfl) ?_
      refine pe_call rfl (s_invV rfl (OB.obj hb hO) rfl rfl) (corner_at hb hO hN hN2 (t := i) (k := 1) hi (by decide) hc1) ?_
      refine pe_go (pc := 75) rfl (s_aald h1 (k := p1) (by omega) (by omega) er1) ?_
      refine pe_go (pc := 76) rfl (s_astore (lv' := [(17, .ref r1), (16, .int (iI 1)), (13, .long (lI d0)), (15, .int (iI 0)), (19, .long (lI d0)), (18, .ref r1), (12, .int (iI (i : Int))), (11, .int (iI at9)), (9, .long (lI be)), (7, .long (lI up)), (6, .int (iI bst)), (5, .int (iI (k : Int))), (4, .int (iI (c : Int))), (3, .ref t), (0, .ref b), (1, .ref a), (2, .int (iI (many : Int)))]) rfl) ?_
      refine pe_go (pc := 78) rfl (s_aload_n rfl) ?_
      refine pe_go (pc := 79) rfl (s_getf (v := .ref pa) h0 rfl) ?_
      refine pe_go (pc := 82) rfl (s_aload_n rfl) ?_
      refine pe_go (pc := 83) rfl (s_iload rfl) ?_
      refine pe_go (pc := 85) rfl (s_iload rfl) ?_
      refine pe_go (pc := 87) rfl (s_iconst (z := 1) rfl) ?_
      refine pe_go (q := (89, [(17, .ref r1), (16, .int (iI 1)), (13, .long (lI d0)), (15, .int (iI 0)), (19, .long (lI d0)), (18, .ref r1), (12, .int (iI (i : Int))), (11, .int (iI at9)), (9, .long (lI be)), (7, .long (lI up)), (6, .int (iI bst)), (5, .int (iI (k : Int))), (4, .int (iI (c : Int))), (3, .ref t), (0, .ref b), (1, .ref a), (2, .int (iI (many : Int)))], [.int (iI 2), .int (iI (i : Int)), .ref t, .ref pa], w)) rfl s_iadd ?_
      refine pe_go (pc := 89) rfl (s_iconst (z := 3) rfl) ?_
      refine pe_go (pc := 90) rfl (s_irem ⟨by decide, by decide⟩ ⟨by decide, by decide⟩ (by decide) (by decide) (show Int.tmod 2 3 = 2 from by decide)) ?_
      refine pe_call rfl (s_invV rfl (OB.obj hb hO) rfl rfl) (corner_at hb hO hN hN2 (t := i) (k := 2) hi (by decide) hc2) ?_
      refine pe_go (pc := 94) rfl (s_aald h1 (k := p2) (by omega) (by omega) er2) ?_
      refine pe_go (pc := 95) rfl (s_astore (lv' := [(18, .ref r2), (17, .ref r1), (16, .int (iI 1)), (13, .long (lI d0)), (15, .int (iI 0)), (19, .long (lI d0)), (12, .int (iI (i : Int))), (11, .int (iI at9)), (9, .long (lI be)), (7, .long (lI up)), (6, .int (iI bst)), (5, .int (iI (k : Int))), (4, .int (iI (c : Int))), (3, .ref t), (0, .ref b), (1, .ref a), (2, .int (iI (many : Int)))]) rfl) ?_
      refine pe_go (pc := 97) rfl (s_aload rfl) ?_
      refine pe_go (pc := 99) rfl (s_iconst (z := 0) rfl) ?_
      refine pe_go (pc := 100) rfl (s_iald (n := 3) (f := row3 (T.xs p1) (T.ys p1) (T.hs p1)) (v := T.xs p1) hr1 (k := 0) (by omega) (by omega) (by decide) rfl) ?_
      refine pe_go (pc := 101) rfl (s_aload rfl) ?_
      refine pe_go (pc := 103) rfl (s_iconst (z := 0) rfl) ?_
      refine pe_go (pc := 104) rfl (s_iald (n := 3) (f := row3 (T.xs p2) (T.ys p2) (T.hs p2)) (v := T.xs p2) hr2 (k := 0) (by omega) (by omega) (by decide) rfl) ?_
      refine pe_go (pc := 105) rfl s_isub ?_
      refine pe_go (pc := 106) rfl (s_aload rfl) ?_
      refine pe_go (pc := 108) rfl (s_iconst (z := 0) rfl) ?_
      refine pe_go (pc := 109) rfl (s_iald (n := 3) (f := row3 (T.xs p1) (T.ys p1) (T.hs p1)) (v := T.xs p1) hr1 (k := 0) (by omega) (by omega) (by decide) rfl) ?_
      refine pe_go (pc := 110) rfl (s_aload rfl) ?_
      refine pe_go (pc := 112) rfl (s_iconst (z := 0) rfl) ?_
      refine pe_go (pc := 113) rfl (s_iald (n := 3) (f := row3 (T.xs p2) (T.ys p2) (T.hs p2)) (v := T.xs p2) hr2 (k := 0) (by omega) (by omega) (by decide) rfl) ?_
      refine pe_go (pc := 114) rfl s_isub ?_
      refine pe_go (pc := 115) rfl s_imul ?_
      refine pe_go (pc := 116) rfl (s_aload rfl) ?_
      refine pe_go (pc := 118) rfl (s_iconst (z := 1) rfl) ?_
      refine pe_go (pc := 119) rfl (s_iald (n := 3) (f := row3 (T.xs p1) (T.ys p1) (T.hs p1)) (v := T.ys p1) hr1 (k := 1) (by omega) (by omega) (by decide) rfl) ?_
      refine pe_go (pc := 120) rfl (s_aload rfl) ?_
      refine pe_go (pc := 122) rfl (s_iconst (z := 1) rfl) ?_
      refine pe_go (pc := 123) rfl (s_iald (n := 3) (f := row3 (T.xs p2) (T.ys p2) (T.hs p2)) (v := T.ys p2) hr2 (k := 1) (by omega) (by omega) (by decide) rfl) ?_
      refine pe_go (pc := 124) rfl s_isub ?_
      refine pe_go (pc := 125) rfl (s_aload rfl) ?_
      refine pe_go (pc := 127) rfl (s_iconst (z := 1) rfl) ?_
      refine pe_go (pc := 128) rfl (s_iald (n := 3) (f := row3 (T.xs p1) (T.ys p1) (T.hs p1)) (v := T.ys p1) hr1 (k := 1) (by omega) (by omega) (by decide) rfl) ?_
      refine pe_go (pc := 129) rfl (s_aload rfl) ?_
      refine pe_go (pc := 131) rfl (s_iconst (z := 1) rfl) ?_
      refine pe_go (pc := 132) rfl (s_iald (n := 3) (f := row3 (T.xs p2) (T.ys p2) (T.hs p2)) (v := T.ys p2) hr2 (k := 1) (by omega) (by omega) (by decide) rfl) ?_
      refine pe_go (pc := 133) rfl s_isub ?_
      refine pe_go (pc := 134) rfl s_imul ?_
      refine pe_go (pc := 135) rfl s_iadd ?_
      show qE 156 (136, _, [.int (iI (T.sq p1 p2))], w) Φ
      rw [g1]
      refine pe_go (pc := 136) rfl (s_i2l ⟨by omega, by omega⟩) ?_
      refine pe_go (pc := 137) rfl (s_lstore (lv' := [(19, .long (lI d1)), (18, .ref r2), (17, .ref r1), (16, .int (iI 1)), (13, .long (lI d0)), (15, .int (iI 0)), (12, .int (iI (i : Int))), (11, .int (iI at9)), (9, .long (lI be)), (7, .long (lI up)), (6, .int (iI bst)), (5, .int (iI (k : Int))), (4, .int (iI (c : Int))), (3, .ref t), (0, .ref b), (1, .ref a), (2, .int (iI (many : Int)))]) rfl) ?_
      refine pe_go (pc := 139) rfl (s_lload rfl) ?_
      refine pe_go (pc := 141) rfl (s_lload rfl) ?_
      refine pe_go rfl (s_lcmp_gt ⟨by omega, by omega⟩ ⟨by omega, by omega⟩ c1) ?_
      refine pe_go rfl (s_if_le_f ⟨by decide, by decide⟩ (by decide)) ?_
      refine pe_go (pc := 147) rfl (s_iload rfl) ?_
      refine pe_go (pc := 149) rfl s_goto ?_
      refine pe_go (pc := 154) rfl (s_istore (lv' := [(15, .int (iI 1)), (19, .long (lI d1)), (18, .ref r2), (17, .ref r1), (16, .int (iI 1)), (13, .long (lI d0)), (12, .int (iI (i : Int))), (11, .int (iI at9)), (9, .long (lI be)), (7, .long (lI up)), (6, .int (iI bst)), (5, .int (iI (k : Int))), (4, .int (iI (c : Int))), (3, .ref t), (0, .ref b), (1, .ref a), (2, .int (iI (many : Int)))]) rfl) ?_
      refine pe_go (pc := 156) rfl (s_lload rfl) ?_
      refine pe_go (pc := 158) rfl (s_lload rfl) ?_
      refine pe_call rfl (s_invS rfl rfl rfl) (c_maxL (x := d0) (y := d1) ⟨by omega, by omega⟩ ⟨by omega, by omega⟩) ?_
      rw [zmL_lt (by omega)]
      refine pe_go (pc := 163) rfl (s_lstore (lv' := [(13, .long (lI d1)), (15, .int (iI 1)), (19, .long (lI d1)), (18, .ref r2), (17, .ref r1), (16, .int (iI 1)), (12, .int (iI (i : Int))), (11, .int (iI at9)), (9, .long (lI be)), (7, .long (lI up)), (6, .int (iI bst)), (5, .int (iI (k : Int))), (4, .int (iI (c : Int))), (3, .ref t), (0, .ref b), (1, .ref a), (2, .int (iI (many : Int)))]) rfl) ?_
      refine pe_go (pc := 165) rfl (s_iinc (x := 1) (y := 2) rfl (by omega) (lv' := [(16, .int (iI 2)), (13, .long (lI d1)), (15, .int (iI 1)), (19, .long (lI d1)), (18, .ref r2), (17, .ref r1), (12, .int (iI (i : Int))), (11, .int (iI at9)), (9, .long (lI be)), (7, .long (lI up)), (6, .int (iI bst)), (5, .int (iI (k : Int))), (4, .int (iI (c : Int))), (3, .ref t), (0, .ref b), (1, .ref a), (2, .int (iI (many : Int)))]) rfl) ?_
      refine pe_go (pc := 168) rfl s_goto ?_
      refine pe_go (pc := 57) rfl (s_iload rfl) ?_
      refine pe_go (pc := 59) rfl (s_iconst (z := 3) rfl) ?_
      refine pe_go rfl (s_icmp_ge_f ⟨by decide, by decide⟩ ⟨by decide, by decide⟩ (by decide)) ?_
      refine pe_go (pc := 63) rfl (s_aload_n rfl) ?_
      refine pe_go (pc := 64) rfl (s_getf (v := .ref pa) h0 rfl) ?_
      refine pe_go (pc := 67) rfl (s_aload_n rfl) ?_
      refine pe_go (pc := 68) rfl (s_iload rfl) ?_
      refine pe_go (pc := 70) rfl (s_iload rfl) ?_
      refine pe_call rfl (s_invV rfl (OB.obj hb hO) rfl rfl) (corner_at hb hO hN hN2 (t := i) (k := 2) hi (by decide) hc2) ?_
      refine pe_go (pc := 75) rfl (s_aald h1 (k := p2) (by omega) (by omega) er2) ?_
      refine pe_go (pc := 76) rfl (s_astore (lv' := [(17, .ref r2), (16, .int (iI 2)), (13, .long (lI d1)), (15, .int (iI 1)), (19, .long (lI d1)), (18, .ref r2), (12, .int (iI (i : Int))), (11, .int (iI at9)), (9, .long (lI be)), (7, .long (lI up)), (6, .int (iI bst)), (5, .int (iI (k : Int))), (4, .int (iI (c : Int))), (3, .ref t), (0, .ref b), (1, .ref a), (2, .int (iI (many : Int)))]) rfl) ?_
      refine pe_go (pc := 78) rfl (s_aload_n rfl) ?_
      refine pe_go (pc := 79) rfl (s_getf (v := .ref pa) h0 rfl) ?_
      refine pe_go (pc := 82) rfl (s_aload_n rfl) ?_
      refine pe_go (pc := 83) rfl (s_iload rfl) ?_
      refine pe_go (pc := 85) rfl (s_iload rfl) ?_
      refine pe_go (pc := 87) rfl (s_iconst (z := 1) rfl) ?_
      refine pe_go (q := (89, [(17, .ref r2), (16, .int (iI 2)), (13, .long (lI d1)), (15, .int (iI 1)), (19, .long (lI d1)), (18, .ref r2), (12, .int (iI (i : Int))), (11, .int (iI at9)), (9, .long (lI be)), (7, .long (lI up)), (6, .int (iI bst)), (5, .int (iI (k : Int))), (4, .int (iI (c : Int))), (3, .ref t), (0, .ref b), (1, .ref a), (2, .int (iI (many : Int)))], [.int (iI 3), .int (iI (i : Int)), .ref t, .ref pa], w)) rfl s_iadd ?_
      refine pe_go (pc := 89) rfl (s_iconst (z := 3) rfl) ?_
      refine pe_go (pc := 90) rfl (s_irem ⟨by decide, by decide⟩ ⟨by decide, by decide⟩ (by decide) (by decide) (show Int.tmod 3 3 = 0 from by decide)) ?_
      refine pe_call rfl (s_invV rfl (OB.obj hb hO) rfl rfl) (corner_at hb hO hN hN2 (t := i) (k := 0) hi (by decide) hc0) ?_
      refine pe_go (pc := 94) rfl (s_aald h1 (k := p0) (by omega) (by omega) er0) ?_
      refine pe_go (pc := 95) rfl (s_astore (lv' := [(18, .ref r0), (17, .ref r2), (16, .int (iI 2)), (13, .long (lI d1)), (15, .int (iI 1)), (19, .long (lI d1)), (12, .int (iI (i : Int))), (11, .int (iI at9)), (9, .long (lI be)), (7, .long (lI up)), (6, .int (iI bst)), (5, .int (iI (k : Int))), (4, .int (iI (c : Int))), (3, .ref t), (0, .ref b), (1, .ref a), (2, .int (iI (many : Int)))]) rfl) ?_
      refine pe_go (pc := 97) rfl (s_aload rfl) ?_
      refine pe_go (pc := 99) rfl (s_iconst (z := 0) rfl) ?_
      refine pe_go (pc := 100) rfl (s_iald (n := 3) (f := row3 (T.xs p2) (T.ys p2) (T.hs p2)) (v := T.xs p2) hr2 (k := 0) (by omega) (by omega) (by decide) rfl) ?_
      refine pe_go (pc := 101) rfl (s_aload rfl) ?_
      refine pe_go (pc := 103) rfl (s_iconst (z := 0) rfl) ?_
      refine pe_go (pc := 104) rfl (s_iald (n := 3) (f := row3 (T.xs p0) (T.ys p0) (T.hs p0)) (v := T.xs p0) hr0 (k := 0) (by omega) (by omega) (by decide) rfl) ?_
      refine pe_go (pc := 105) rfl s_isub ?_
      refine pe_go (pc := 106) rfl (s_aload rfl) ?_
      refine pe_go (pc := 108) rfl (s_iconst (z := 0) rfl) ?_
      refine pe_go (pc := 109) rfl (s_iald (n := 3) (f := row3 (T.xs p2) (T.ys p2) (T.hs p2)) (v := T.xs p2) hr2 (k := 0) (by omega) (by omega) (by decide) rfl) ?_
      refine pe_go (pc := 110) rfl (s_aload rfl) ?_
      refine pe_go (pc := 112) rfl (s_iconst (z := 0) rfl) ?_
      refine pe_go (pc := 113) rfl (s_iald (n := 3) (f := row3 (T.xs p0) (T.ys p0) (T.hs p0)) (v := T.xs p0) hr0 (k := 0) (by omega) (by omega) (by decide) rfl) ?_
      refine pe_go (pc := 114) rfl s_isub ?_
      refine pe_go (pc := 115) rfl s_imul ?_
      refine pe_go (pc := 116) rfl (s_aload rfl) ?_
      refine pe_go (pc := 118) rfl (s_iconst (z := 1) rfl) ?_
      refine pe_go (pc := 119) rfl (s_iald (n := 3) (f := row3 (T.xs p2) (T.ys p2) (T.hs p2)) (v := T.ys p2) hr2 (k := 1) (by omega) (by omega) (by decide) rfl) ?_
      refine pe_go (pc := 120) rfl (s_aload rfl) ?_
      refine pe_go (pc := 122) rfl (s_iconst (z := 1) rfl) ?_
      refine pe_go (pc := 123) rfl (s_iald (n := 3) (f := row3 (T.xs p0) (T.ys p0) (T.hs p0)) (v := T.ys p0) hr0 (k := 1) (by omega) (by omega) (by decide) rfl) ?_
      refine pe_go (pc := 124) rfl s_isub ?_
      refine pe_go (pc := 125) rfl (s_aload rfl) ?_
      refine pe_go (pc := 127) rfl (s_iconst (z := 1) rfl) ?_
      refine pe_go (pc := 128) rfl (s_iald (n := 3) (f := row3 (T.xs p2) (T.ys p2) (T.hs p2)) (v := T.ys p2) hr2 (k := 1) (by omega) (by omega) (by decide) rfl) ?_
      refine pe_go (pc := 129) rfl (s_aload rfl) ?_
      refine pe_go (pc := 131) rfl (s_iconst (z := 1) rfl) ?_
      refine pe_go (pc := 132) rfl (s_iald (n := 3) (f := row3 (T.xs p0) (T.ys p0) (T.hs p0)) (v := T.ys p0) hr0 (k := 1) (by omega) (by omega) (by decide) rfl) ?_
      refine pe_go (pc := 133) rfl s_isub ?_
      refine pe_go (pc := 134) rfl s_imul ?_
      refine pe_go (pc := 135) rfl s_iadd ?_
      show qE 156 (136, _, [.int (iI (T.sq p2 p0))], w) Φ
      rw [g2]
      refine pe_go (pc := 136) rfl (s_i2l ⟨by omega, by omega⟩) ?_
      refine pe_go (pc := 137) rfl (s_lstore (lv' := [(19, .long (lI d2)), (18, .ref r0), (17, .ref r2), (16, .int (iI 2)), (13, .long (lI d1)), (15, .int (iI 1)), (12, .int (iI (i : Int))), (11, .int (iI at9)), (9, .long (lI be)), (7, .long (lI up)), (6, .int (iI bst)), (5, .int (iI (k : Int))), (4, .int (iI (c : Int))), (3, .ref t), (0, .ref b), (1, .ref a), (2, .int (iI (many : Int)))]) rfl) ?_
      refine pe_go (pc := 139) rfl (s_lload rfl) ?_
      refine pe_go (pc := 141) rfl (s_lload rfl) ?_
      refine pe_go rfl (s_lcmp_gt ⟨by omega, by omega⟩ ⟨by omega, by omega⟩ c2) ?_
      refine pe_go rfl (s_if_le_f ⟨by decide, by decide⟩ (by decide)) ?_
      refine pe_go (pc := 147) rfl (s_iload rfl) ?_
      refine pe_go (pc := 149) rfl s_goto ?_
      refine pe_go (pc := 154) rfl (s_istore (lv' := [(15, .int (iI 2)), (19, .long (lI d2)), (18, .ref r0), (17, .ref r2), (16, .int (iI 2)), (13, .long (lI d1)), (12, .int (iI (i : Int))), (11, .int (iI at9)), (9, .long (lI be)), (7, .long (lI up)), (6, .int (iI bst)), (5, .int (iI (k : Int))), (4, .int (iI (c : Int))), (3, .ref t), (0, .ref b), (1, .ref a), (2, .int (iI (many : Int)))]) rfl) ?_
      refine pe_go (pc := 156) rfl (s_lload rfl) ?_
      refine pe_go (pc := 158) rfl (s_lload rfl) ?_
      refine pe_call rfl (s_invS rfl rfl rfl) (c_maxL (x := d1) (y := d2) ⟨by omega, by omega⟩ ⟨by omega, by omega⟩) ?_
      rw [zmL_lt (by omega)]
      refine pe_go (pc := 163) rfl (s_lstore (lv' := [(13, .long (lI d2)), (15, .int (iI 2)), (19, .long (lI d2)), (18, .ref r0), (17, .ref r2), (16, .int (iI 2)), (12, .int (iI (i : Int))), (11, .int (iI at9)), (9, .long (lI be)), (7, .long (lI up)), (6, .int (iI bst)), (5, .int (iI (k : Int))), (4, .int (iI (c : Int))), (3, .ref t), (0, .ref b), (1, .ref a), (2, .int (iI (many : Int)))]) rfl) ?_
      refine pe_go (pc := 165) rfl (s_iinc (x := 2) (y := 3) rfl (by omega) (lv' := [(16, .int (iI 3)), (13, .long (lI d2)), (15, .int (iI 2)), (19, .long (lI d2)), (18, .ref r0), (17, .ref r2), (12, .int (iI (i : Int))), (11, .int (iI at9)), (9, .long (lI be)), (7, .long (lI up)), (6, .int (iI bst)), (5, .int (iI (k : Int))), (4, .int (iI (c : Int))), (3, .ref t), (0, .ref b), (1, .ref a), (2, .int (iI (many : Int)))]) rfl) ?_
      refine pe_go (pc := 168) rfl s_goto ?_
      refine pe_go (pc := 57) rfl (s_iload rfl) ?_
      refine pe_go (pc := 59) rfl (s_iconst (z := 3) rfl) ?_
      refine pe_go rfl (s_icmp_ge_t ⟨by decide, by decide⟩ ⟨by decide, by decide⟩ (by decide)) ?_
      refine pe_few (lv := [(15, .int (iI ((2 : Nat) : Int))), (13, .long (lI d2)), (12, .int (iI (i : Int))), (11, .int (iI at9)), (9, .long (lI be)), (7, .long (lI up)), (6, .int (iI bst)), (5, .int (iI (k : Int))), (4, .int (iI (c : Int))), (3, .ref t), (0, .ref b), (1, .ref a), (2, .int (iI (many : Int)))]) rfl rfl (by intro q hq; simp only [List.mem_cons, List.not_mem_nil, or_false] at hq; rcases hq with rfl | rfl | rfl | rfl | rfl | rfl | rfl | rfl | rfl | rfl | rfl | rfl | rfl <;> rfl) ?_
      exact KK d2 2 (by show _ = T.qs i (T.lgs i); rw [hlg]; (repeat' split) <;> first | omega | (first | rw [hq0] | rw [hq1] | rw [hq2]) <;> omega) (by rw [hlg]; (repeat' split) <;> omega)
theorem l_rf0 {w : pW} {b t : Nat} {k c many : Nat} {at9 be up bst : Int} {T : St} (ht : tb w t T) {i N9 : Nat} (hN : T.tn = (N9 : Int)) (hN2 : N9 ≤ 74) (hi : i < N9) {q9 : Int} {e9 : Nat} (hA : -8000000 ≤ T.ar i ∧ T.ar i ≤ 8000000) {a : Nat} {Φ : Option Value → pW → Prop} (KK : qE 156 (38, [(12, .int (iI ((i + 1 : Nat) : Int))), (11, .int (iI (e9 : Int))), (9, .long (lI q9)), (7, .long (lI (T.ar i))), (6, .int (iI (i : Int))), (5, .int (iI (k : Int))), (4, .int (iI (c : Int))), (3, .ref t), (0, .ref b), (1, .ref a), (2, .int (iI (many : Int)))], [], w) Φ) : qE 156 (171, [(15, .int (iI (e9 : Int))), (13, .long (lI q9)), (12, .int (iI (i : Int))), (11, .int (iI at9)), (9, .long (lI be)), (7, .long (lI up)), (6, .int (iI (-1))), (5, .int (iI (k : Int))), (4, .int (iI (c : Int))), (3, .ref t), (0, .ref b), (1, .ref a), (2, .int (iI (many : Int)))], [], w) Φ := by
  obtain ⟨L, M, K, pre, post, hb, hO⟩ := id ht
  refine pe_go (pc := 171) rfl (s_iload rfl) ?_
  refine pe_go rfl (s_if_lt_t ⟨by decide, by decide⟩ (by decide)) ?_
  refine pe_go (pc := 198) rfl (s_iload rfl) ?_
  refine pe_go (pc := 200) rfl (s_istore (lv' := [(6, .int (iI (i : Int))), (15, .int (iI (e9 : Int))), (13, .long (lI q9)), (12, .int (iI (i : Int))), (11, .int (iI at9)), (9, .long (lI be)), (7, .long (lI up)), (5, .int (iI (k : Int))), (4, .int (iI (c : Int))), (3, .ref t), (0, .ref b), (1, .ref a), (2, .int (iI (many : Int)))]) rfl) ?_
  refine pe_go (pc := 202) rfl (s_aload_n rfl) ?_
  refine pe_go (pc := 203) rfl (s_iload rfl) ?_
  refine pe_call rfl (s_invV rfl (OB.obj hb hO) rfl rfl) (show pRun 111 _ w (some (.int (iI (T.ar i)))) w from o_area hb hO hN hN2 hi) ?_
  refine pe_go (pc := 208) rfl (s_i2l ⟨by omega, by omega⟩) ?_
  refine pe_go (pc := 209) rfl (s_lstore (lv' := [(7, .long (lI (T.ar i))), (6, .int (iI (i : Int))), (15, .int (iI (e9 : Int))), (13, .long (lI q9)), (12, .int (iI (i : Int))), (11, .int (iI at9)), (9, .long (lI be)), (5, .int (iI (k : Int))), (4, .int (iI (c : Int))), (3, .ref t), (0, .ref b), (1, .ref a), (2, .int (iI (many : Int)))]) rfl) ?_
  refine pe_go (pc := 211) rfl (s_lload rfl) ?_
  refine pe_go (pc := 213) rfl (s_lstore (lv' := [(9, .long (lI q9)), (7, .long (lI (T.ar i))), (6, .int (iI (i : Int))), (15, .int (iI (e9 : Int))), (13, .long (lI q9)), (12, .int (iI (i : Int))), (11, .int (iI at9)), (5, .int (iI (k : Int))), (4, .int (iI (c : Int))), (3, .ref t), (0, .ref b), (1, .ref a), (2, .int (iI (many : Int)))]) rfl) ?_
  refine pe_go (pc := 215) rfl (s_iload rfl) ?_
  refine pe_go (pc := 217) rfl (s_istore (lv' := [(11, .int (iI (e9 : Int))), (9, .long (lI q9)), (7, .long (lI (T.ar i))), (6, .int (iI (i : Int))), (15, .int (iI (e9 : Int))), (13, .long (lI q9)), (12, .int (iI (i : Int))), (5, .int (iI (k : Int))), (4, .int (iI (c : Int))), (3, .ref t), (0, .ref b), (1, .ref a), (2, .int (iI (many : Int)))]) rfl) ?_
  refine pe_go (pc := 219) rfl (s_iinc (x := (i : Int)) (y := ((i + 1 : Nat) : Int)) rfl (by omega) (lv' := [(12, .int (iI ((i + 1 : Nat) : Int))), (11, .int (iI (e9 : Int))), (9, .long (lI q9)), (7, .long (lI (T.ar i))), (6, .int (iI (i : Int))), (15, .int (iI (e9 : Int))), (13, .long (lI q9)), (5, .int (iI (k : Int))), (4, .int (iI (c : Int))), (3, .ref t), (0, .ref b), (1, .ref a), (2, .int (iI (many : Int)))]) rfl) ?_
  refine pe_go (pc := 222) rfl s_goto ?_
  refine pe_few (lv := [(12, .int (iI ((i + 1 : Nat) : Int))), (11, .int (iI (e9 : Int))), (9, .long (lI q9)), (7, .long (lI (T.ar i))), (6, .int (iI (i : Int))), (5, .int (iI (k : Int))), (4, .int (iI (c : Int))), (3, .ref t), (0, .ref b), (1, .ref a), (2, .int (iI (many : Int)))]) rfl rfl (by intro q hq; simp only [List.mem_cons, List.not_mem_nil, or_false] at hq; rcases hq with rfl | rfl | rfl | rfl | rfl | rfl | rfl | rfl | rfl | rfl | rfl <;> rfl) ?_
  exact KK
theorem l_rfY {w : pW} {b t : Nat} {k c many : Nat} {at9 be up bst : Int} {T : St} (ht : tb w t T) {i N9 : Nat} (hN : T.tn = (N9 : Int)) (hN2 : N9 ≤ 74) (hi : i < N9) {q9 : Int} {e9 : Nat} (hA : -8000000 ≤ T.ar i ∧ T.ar i ≤ 8000000) {a : Nat} {B : Nat} (hBB : B < 74) {qb ab : Int} (hq9 : 0 ≤ q9 ∧ q9 ≤ 8000000) (hqb : 0 ≤ qb ∧ qb ≤ 8000000) (hab : -8000000 ≤ ab ∧ ab ≤ 8000000) (hc : T.ar i * qb < ab * q9) {Φ : Option Value → pW → Prop} (KK : qE 156 (38, [(12, .int (iI ((i + 1 : Nat) : Int))), (11, .int (iI (e9 : Int))), (9, .long (lI q9)), (7, .long (lI (T.ar i))), (6, .int (iI (i : Int))), (5, .int (iI (k : Int))), (4, .int (iI (c : Int))), (3, .ref t), (0, .ref b), (1, .ref a), (2, .int (iI (many : Int)))], [], w) Φ) : qE 156 (171, [(15, .int (iI (e9 : Int))), (13, .long (lI q9)), (12, .int (iI (i : Int))), (11, .int (iI at9)), (9, .long (lI qb)), (7, .long (lI ab)), (6, .int (iI (B : Int))), (5, .int (iI (k : Int))), (4, .int (iI (c : Int))), (3, .ref t), (0, .ref b), (1, .ref a), (2, .int (iI (many : Int)))], [], w) Φ := by
  obtain ⟨L, M, K, pre, post, hb, hO⟩ := id ht
  have m1 := mul_b (x := T.ar i) (y := qb) (a := 8000000) (b := 8000000) (by omega) (by omega) (by omega) (by omega)
  have m2 := mul_b (x := ab) (y := q9) (a := 8000000) (b := 8000000) (by omega) (by omega) (by omega) (by omega)
  refine pe_go (pc := 171) rfl (s_iload rfl) ?_
  refine pe_go rfl (s_if_lt_f ⟨by omega, by omega⟩ (by omega)) ?_
  refine pe_go (pc := 176) rfl (s_aload_n rfl) ?_
  refine pe_go (pc := 177) rfl (s_iload rfl) ?_
  refine pe_call rfl (s_invV rfl (OB.obj hb hO) rfl rfl) (show pRun 111 _ w (some (.int (iI (T.ar i)))) w from o_area hb hO hN hN2 hi) ?_
  refine pe_go (pc := 182) rfl (s_i2l ⟨by omega, by omega⟩) ?_
  refine pe_go (pc := 183) rfl (s_lload rfl) ?_
  refine pe_go (pc := 185) rfl s_lmul ?_
  refine pe_go (pc := 186) rfl (s_lload rfl) ?_
  refine pe_go (pc := 188) rfl (s_lload rfl) ?_
  refine pe_go (pc := 190) rfl s_lmul ?_
  refine pe_go rfl (s_lcmp_lt ⟨by omega, by omega⟩ ⟨by omega, by omega⟩ hc) ?_
  refine pe_go rfl (s_if_lt_t ⟨by decide, by decide⟩ (by decide)) ?_
  refine pe_go (pc := 198) rfl (s_iload rfl) ?_
  refine pe_go (pc := 200) rfl (s_istore (lv' := [(6, .int (iI (i : Int))), (15, .int (iI (e9 : Int))), (13, .long (lI q9)), (12, .int (iI (i : Int))), (11, .int (iI at9)), (9, .long (lI qb)), (7, .long (lI ab)), (5, .int (iI (k : Int))), (4, .int (iI (c : Int))), (3, .ref t), (0, .ref b), (1, .ref a), (2, .int (iI (many : Int)))]) rfl) ?_
  refine pe_go (pc := 202) rfl (s_aload_n rfl) ?_
  refine pe_go (pc := 203) rfl (s_iload rfl) ?_
  refine pe_call rfl (s_invV rfl (OB.obj hb hO) rfl rfl) (show pRun 111 _ w (some (.int (iI (T.ar i)))) w from o_area hb hO hN hN2 hi) ?_
  refine pe_go (pc := 208) rfl (s_i2l ⟨by omega, by omega⟩) ?_
  refine pe_go (pc := 209) rfl (s_lstore (lv' := [(7, .long (lI (T.ar i))), (6, .int (iI (i : Int))), (15, .int (iI (e9 : Int))), (13, .long (lI q9)), (12, .int (iI (i : Int))), (11, .int (iI at9)), (9, .long (lI qb)), (5, .int (iI (k : Int))), (4, .int (iI (c : Int))), (3, .ref t), (0, .ref b), (1, .ref a), (2, .int (iI (many : Int)))]) rfl) ?_
  refine pe_go (pc := 211) rfl (s_lload rfl) ?_
  refine pe_go (pc := 213) rfl (s_lstore (lv' := [(9, .long (lI q9)), (7, .long (lI (T.ar i))), (6, .int (iI (i : Int))), (15, .int (iI (e9 : Int))), (13, .long (lI q9)), (12, .int (iI (i : Int))), (11, .int (iI at9)), (5, .int (iI (k : Int))), (4, .int (iI (c : Int))), (3, .ref t), (0, .ref b), (1, .ref a), (2, .int (iI (many : Int)))]) rfl) ?_
  refine pe_go (pc := 215) rfl (s_iload rfl) ?_
  refine pe_go (pc := 217) rfl (s_istore (lv' := [(11, .int (iI (e9 : Int))), (9, .long (lI q9)), (7, .long (lI (T.ar i))), (6, .int (iI (i : Int))), (15, .int (iI (e9 : Int))), (13, .long (lI q9)), (12, .int (iI (i : Int))), (5, .int (iI (k : Int))), (4, .int (iI (c : Int))), (3, .ref t), (0, .ref b), (1, .ref a), (2, .int (iI (many : Int)))]) rfl) ?_
  refine pe_go (pc := 219) rfl (s_iinc (x := (i : Int)) (y := ((i + 1 : Nat) : Int)) rfl (by omega) (lv' := [(12, .int (iI ((i + 1 : Nat) : Int))), (11, .int (iI (e9 : Int))), (9, .long (lI q9)), (7, .long (lI (T.ar i))), (6, .int (iI (i : Int))), (15, .int (iI (e9 : Int))), (13, .long (lI q9)), (5, .int (iI (k : Int))), (4, .int (iI (c : Int))), (3, .ref t), (0, .ref b), (1, .ref a), (2, .int (iI (many : Int)))]) rfl) ?_
  refine pe_go (pc := 222) rfl s_goto ?_
  refine pe_few (lv := [(12, .int (iI ((i + 1 : Nat) : Int))), (11, .int (iI (e9 : Int))), (9, .long (lI q9)), (7, .long (lI (T.ar i))), (6, .int (iI (i : Int))), (5, .int (iI (k : Int))), (4, .int (iI (c : Int))), (3, .ref t), (0, .ref b), (1, .ref a), (2, .int (iI (many : Int)))]) rfl rfl (by intro q hq; simp only [List.mem_cons, List.not_mem_nil, or_false] at hq; rcases hq with rfl | rfl | rfl | rfl | rfl | rfl | rfl | rfl | rfl | rfl | rfl <;> rfl) ?_
  exact KK
theorem l_rfN {w : pW} {b t : Nat} {k c many : Nat} {at9 be up bst : Int} {T : St} (ht : tb w t T) {i N9 : Nat} (hN : T.tn = (N9 : Int)) (hN2 : N9 ≤ 74) (hi : i < N9) {q9 : Int} {e9 : Nat} (hA : -8000000 ≤ T.ar i ∧ T.ar i ≤ 8000000) {a : Nat} {B : Nat} (hBB : B < 74) {qb ab : Int} (hq9 : 0 ≤ q9 ∧ q9 ≤ 8000000) (hqb : 0 ≤ qb ∧ qb ≤ 8000000) (hab : -8000000 ≤ ab ∧ ab ≤ 8000000) (hc : ¬ T.ar i * qb < ab * q9) {Φ : Option Value → pW → Prop} (KK : qE 156 (38, [(12, .int (iI ((i + 1 : Nat) : Int))), (11, .int (iI at9)), (9, .long (lI qb)), (7, .long (lI ab)), (6, .int (iI (B : Int))), (5, .int (iI (k : Int))), (4, .int (iI (c : Int))), (3, .ref t), (0, .ref b), (1, .ref a), (2, .int (iI (many : Int)))], [], w) Φ) : qE 156 (171, [(15, .int (iI (e9 : Int))), (13, .long (lI q9)), (12, .int (iI (i : Int))), (11, .int (iI at9)), (9, .long (lI qb)), (7, .long (lI ab)), (6, .int (iI (B : Int))), (5, .int (iI (k : Int))), (4, .int (iI (c : Int))), (3, .ref t), (0, .ref b), (1, .ref a), (2, .int (iI (many : Int)))], [], w) Φ := by
  obtain ⟨L, M, K, pre, post, hb, hO⟩ := id ht
  have m1 := mul_b (x := T.ar i) (y := qb) (a := 8000000) (b := 8000000) (by omega) (by omega) (by omega) (by omega)
  have m2 := mul_b (x := ab) (y := q9) (a := 8000000) (b := 8000000) (by omega) (by omega) (by omega) (by omega)
  rcases Int.lt_trichotomy (T.ar i * qb) (ab * q9) with c1 | c1 | c1
  · exact absurd c1 hc
  · skip
    refine pe_go (pc := 171) rfl (s_iload rfl) ?_
    refine pe_go rfl (s_if_lt_f ⟨by omega, by omega⟩ (by omega)) ?_
    refine pe_go (pc := 176) rfl (s_aload_n rfl) ?_
    refine pe_go (pc := 177) rfl (s_iload rfl) ?_
    refine pe_call rfl (s_invV rfl (OB.obj hb hO) rfl rfl) (show pRun 111 _ w (some (.int (iI (T.ar i)))) w from o_area hb hO hN hN2 hi) ?_
    refine pe_go (pc := 182) rfl (s_i2l ⟨by omega, by omega⟩) ?_
    refine pe_go (pc := 183) rfl (s_lload rfl) ?_
    refine pe_go (pc := 185) rfl s_lmul ?_
    refine pe_go (pc := 186) rfl (s_lload rfl) ?_
    refine pe_go (pc := 188) rfl (s_lload rfl) ?_
    refine pe_go (pc := 190) rfl s_lmul ?_
    refine pe_go rfl (s_lcmp_eq c1) ?_
    refine pe_go rfl (s_if_lt_f ⟨by decide, by decide⟩ (by decide)) ?_
    refine pe_go (pc := 195) rfl s_goto ?_
    refine pe_go (pc := 219) rfl (s_iinc (x := (i : Int)) (y := ((i + 1 : Nat) : Int)) rfl (by omega) (lv' := [(12, .int (iI ((i + 1 : Nat) : Int))), (15, .int (iI (e9 : Int))), (13, .long (lI q9)), (11, .int (iI at9)), (9, .long (lI qb)), (7, .long (lI ab)), (6, .int (iI (B : Int))), (5, .int (iI (k : Int))), (4, .int (iI (c : Int))), (3, .ref t), (0, .ref b), (1, .ref a), (2, .int (iI (many : Int)))]) rfl) ?_
    refine pe_go (pc := 222) rfl s_goto ?_
    refine pe_few (lv := [(12, .int (iI ((i + 1 : Nat) : Int))), (11, .int (iI at9)), (9, .long (lI qb)), (7, .long (lI ab)), (6, .int (iI (B : Int))), (5, .int (iI (k : Int))), (4, .int (iI (c : Int))), (3, .ref t), (0, .ref b), (1, .ref a), (2, .int (iI (many : Int)))]) rfl rfl (by intro q hq; simp only [List.mem_cons, List.not_mem_nil, or_false] at hq; rcases hq with rfl | rfl | rfl | rfl | rfl | rfl | rfl | rfl | rfl | rfl | rfl <;> rfl) ?_
    exact KK
  · skip
    refine pe_go (pc := 171) rfl (s_iload rfl) ?_
    refine pe_go rfl (s_if_lt_f ⟨by omega, by omega⟩ (by omega)) ?_
    refine pe_go (pc := 176) rfl (s_aload_n rfl) ?_
    refine pe_go (pc := 177) rfl (s_iload rfl) ?_
    refine pe_call rfl (s_invV rfl (OB.obj hb hO) rfl rfl) (show pRun 111 _ w (some (.int (iI (T.ar i)))) w from o_area hb hO hN hN2 hi) ?_
    refine pe_go (pc := 182) rfl (s_i2l ⟨by omega, by omega⟩) ?_
    refine pe_go (pc := 183) rfl (s_lload rfl) ?_
    refine pe_go (pc := 185) rfl s_lmul ?_
    refine pe_go (pc := 186) rfl (s_lload rfl) ?_
    refine pe_go (pc := 188) rfl (s_lload rfl) ?_
    refine pe_go (pc := 190) rfl s_lmul ?_
    refine pe_go rfl (s_lcmp_gt ⟨by omega, by omega⟩ ⟨by omega, by omega⟩ c1) ?_
    refine pe_go rfl (s_if_lt_f ⟨by decide, by decide⟩ (by decide)) ?_
    refine pe_go (pc := 195) rfl s_goto ?_
    refine pe_go (pc := 219) rfl (s_iinc (x := (i : Int)) (y := ((i + 1 : Nat) : Int)) rfl (by omega) (lv' := [(12, .int (iI ((i + 1 : Nat) : Int))), (15, .int (iI (e9 : Int))), (13, .long (lI q9)), (11, .int (iI at9)), (9, .long (lI qb)), (7, .long (lI ab)), (6, .int (iI (B : Int))), (5, .int (iI (k : Int))), (4, .int (iI (c : Int))), (3, .ref t), (0, .ref b), (1, .ref a), (2, .int (iI (many : Int)))]) rfl) ?_
    refine pe_go (pc := 222) rfl s_goto ?_
    refine pe_few (lv := [(12, .int (iI ((i + 1 : Nat) : Int))), (11, .int (iI at9)), (9, .long (lI qb)), (7, .long (lI ab)), (6, .int (iI (B : Int))), (5, .int (iI (k : Int))), (4, .int (iI (c : Int))), (3, .ref t), (0, .ref b), (1, .ref a), (2, .int (iI (many : Int)))]) rfl rfl (by intro q hq; simp only [List.mem_cons, List.not_mem_nil, or_false] at hq; rcases hq with rfl | rfl | rfl | rfl | rfl | rfl | rfl | rfl | rfl | rfl | rfl <;> rfl) ?_
    exact KK
theorem l_rf38 {w : pW} {b t : Nat} {k c many : Nat} {at9 be up bst : Int} {T : St} (ht : tb w t T) {N9 : Nat} (hN : T.tn = (N9 : Int)) (hN2 : N9 ≤ 74) {a i : Nat} (hi : i < N9) {Φ : Option Value → pW → Prop} (KK : qE 156 (48, [(12, .int (iI (i : Int))), (11, .int (iI at9)), (9, .long (lI be)), (7, .long (lI up)), (6, .int (iI bst)), (5, .int (iI (k : Int))), (4, .int (iI (c : Int))), (3, .ref t), (0, .ref b), (1, .ref a), (2, .int (iI (many : Int)))], [], w) Φ) : qE 156 (38, [(12, .int (iI (i : Int))), (11, .int (iI at9)), (9, .long (lI be)), (7, .long (lI up)), (6, .int (iI bst)), (5, .int (iI (k : Int))), (4, .int (iI (c : Int))), (3, .ref t), (0, .ref b), (1, .ref a), (2, .int (iI (many : Int)))], [], w) Φ := by
  obtain ⟨L, M, K, pre, post, hb, hO⟩ := id ht
  have h1 := o_is1 hb hO
  rw [hN] at h1
  refine pe_go (pc := 38) rfl (s_iload rfl) ?_
  refine pe_go (pc := 40) rfl (s_aload_n rfl) ?_
  refine pe_go (pc := 41) rfl (s_iconst (z := 1) rfl) ?_
  refine pe_call rfl (s_invV rfl (OB.obj hb hO) rfl rfl) (h1) ?_
  refine pe_go rfl (s_icmp_ge_f ⟨by omega, by omega⟩ ⟨by omega, by omega⟩ (by omega)) ?_
  refine pe_few (lv := [(12, .int (iI (i : Int))), (11, .int (iI at9)), (9, .long (lI be)), (7, .long (lI up)), (6, .int (iI bst)), (5, .int (iI (k : Int))), (4, .int (iI (c : Int))), (3, .ref t), (0, .ref b), (1, .ref a), (2, .int (iI (many : Int)))]) rfl rfl (by intro q hq; simp only [List.mem_cons, List.not_mem_nil, or_false] at hq; rcases hq with rfl | rfl | rfl | rfl | rfl | rfl | rfl | rfl | rfl | rfl | rfl <;> rfl) ?_
  exact KK
theorem l_rf38x {w : pW} {b t : Nat} {k c many : Nat} {at9 be up bst : Int} {T : St} (ht : tb w t T) {N9 : Nat} (hN : T.tn = (N9 : Int)) (hN2 : N9 ≤ 74) {a : Nat} {Φ : Option Value → pW → Prop} (KK : qE 156 (225, [(11, .int (iI at9)), (6, .int (iI bst)), (5, .int (iI (k : Int))), (4, .int (iI (c : Int))), (3, .ref t), (0, .ref b), (1, .ref a), (2, .int (iI (many : Int)))], [], w) Φ) : qE 156 (38, [(12, .int (iI (N9 : Int))), (11, .int (iI at9)), (9, .long (lI be)), (7, .long (lI up)), (6, .int (iI bst)), (5, .int (iI (k : Int))), (4, .int (iI (c : Int))), (3, .ref t), (0, .ref b), (1, .ref a), (2, .int (iI (many : Int)))], [], w) Φ := by
  obtain ⟨L, M, K, pre, post, hb, hO⟩ := id ht
  have h1 := o_is1 hb hO
  rw [hN] at h1
  refine pe_go (pc := 38) rfl (s_iload rfl) ?_
  refine pe_go (pc := 40) rfl (s_aload_n rfl) ?_
  refine pe_go (pc := 41) rfl (s_iconst (z := 1) rfl) ?_
  refine pe_call rfl (s_invV rfl (OB.obj hb hO) rfl rfl) (h1) ?_
  refine pe_go rfl (s_icmp_ge_t ⟨by omega, by omega⟩ ⟨by omega, by omega⟩ (Int.le_refl _)) ?_
  refine pe_few (lv := [(11, .int (iI at9)), (6, .int (iI bst)), (5, .int (iI (k : Int))), (4, .int (iI (c : Int))), (3, .ref t), (0, .ref b), (1, .ref a), (2, .int (iI (many : Int)))]) rfl rfl (by intro q hq; simp only [List.mem_cons, List.not_mem_nil, or_false] at hq; rcases hq with rfl | rfl | rfl | rfl | rfl | rfl | rfl | rfl <;> rfl) ?_
  exact KK
theorem l_rf17 {w : pW} {b t : Nat} {k c many a : Nat} (hk : k < many) (hm : many ≤ 10) {Φ : Option Value → pW → Prop} (KK : qE 156 (38, [(12, .int (iI ((0 : Nat) : Int))), (11, .int (iI 0)), (9, .long (lI 1)), (7, .long (lI 0)), (6, .int (iI (-1))), (5, .int (iI (k : Int))), (4, .int (iI (c : Int))), (3, .ref t), (0, .ref b), (1, .ref a), (2, .int (iI (many : Int)))], [], w) Φ) : qE 156 (17, [(5, .int (iI (k : Int))), (4, .int (iI (c : Int))), (3, .ref t), (0, .ref b), (1, .ref a), (2, .int (iI (many : Int)))], [], w) Φ := by
  refine pe_go (pc := 17) rfl (s_iload rfl) ?_
  refine pe_go (pc := 19) rfl (s_iload_n rfl) ?_
  refine pe_go rfl (s_icmp_ge_f ⟨by omega, by omega⟩ ⟨by omega, by omega⟩ (by omega)) ?_
  refine pe_go (pc := 23) rfl (s_iconst (z := -1) rfl) ?_
  refine pe_go (pc := 24) rfl (s_istore (lv' := [(6, .int (iI (-1))), (5, .int (iI (k : Int))), (4, .int (iI (c : Int))), (3, .ref t), (0, .ref b), (1, .ref a), (2, .int (iI (many : Int)))]) rfl) ?_
  refine pe_go (pc := 26) rfl s_lconst0 ?_
  refine pe_go (pc := 27) rfl (s_lstore (lv' := [(7, .long (lI 0)), (6, .int (iI (-1))), (5, .int (iI (k : Int))), (4, .int (iI (c : Int))), (3, .ref t), (0, .ref b), (1, .ref a), (2, .int (iI (many : Int)))]) rfl) ?_
  refine pe_go (pc := 29) rfl s_lconst1 ?_
  refine pe_go (pc := 30) rfl (s_lstore (lv' := [(9, .long (lI 1)), (7, .long (lI 0)), (6, .int (iI (-1))), (5, .int (iI (k : Int))), (4, .int (iI (c : Int))), (3, .ref t), (0, .ref b), (1, .ref a), (2, .int (iI (many : Int)))]) rfl) ?_
  refine pe_go (pc := 32) rfl (s_iconst (z := 0) rfl) ?_
  refine pe_go (pc := 33) rfl (s_istore (lv' := [(11, .int (iI 0)), (9, .long (lI 1)), (7, .long (lI 0)), (6, .int (iI (-1))), (5, .int (iI (k : Int))), (4, .int (iI (c : Int))), (3, .ref t), (0, .ref b), (1, .ref a), (2, .int (iI (many : Int)))]) rfl) ?_
  refine pe_go (pc := 35) rfl (s_iconst (z := 0) rfl) ?_
  refine pe_go (pc := 36) rfl (s_istore (lv' := [(12, .int (iI 0)), (11, .int (iI 0)), (9, .long (lI 1)), (7, .long (lI 0)), (6, .int (iI (-1))), (5, .int (iI (k : Int))), (4, .int (iI (c : Int))), (3, .ref t), (0, .ref b), (1, .ref a), (2, .int (iI (many : Int)))]) rfl) ?_
  refine pe_few (lv := [(12, .int (iI ((0 : Nat) : Int))), (11, .int (iI 0)), (9, .long (lI 1)), (7, .long (lI 0)), (6, .int (iI (-1))), (5, .int (iI (k : Int))), (4, .int (iI (c : Int))), (3, .ref t), (0, .ref b), (1, .ref a), (2, .int (iI (many : Int)))]) rfl rfl (by intro q hq; simp only [List.mem_cons, List.not_mem_nil, or_false] at hq; rcases hq with rfl | rfl | rfl | rfl | rfl | rfl | rfl | rfl | rfl | rfl | rfl <;> rfl) ?_
  exact KK
theorem l_rf17x {w : pW} {b t : Nat} {k c many a : Nat} (hk : many ≤ k) (hk2 : k ≤ 10) (hm : many ≤ 10) {Φ : Option Value → pW → Prop} (KK : qE 156 (342, [(5, .int (iI (k : Int))), (4, .int (iI (c : Int))), (3, .ref t), (0, .ref b), (1, .ref a), (2, .int (iI (many : Int)))], [], w) Φ) : qE 156 (17, [(5, .int (iI (k : Int))), (4, .int (iI (c : Int))), (3, .ref t), (0, .ref b), (1, .ref a), (2, .int (iI (many : Int)))], [], w) Φ := by
  refine pe_go (pc := 17) rfl (s_iload rfl) ?_
  refine pe_go (pc := 19) rfl (s_iload_n rfl) ?_
  refine pe_go rfl (s_icmp_ge_t ⟨by omega, by omega⟩ ⟨by omega, by omega⟩ (by omega)) ?_
  refine pe_few (lv := [(5, .int (iI (k : Int))), (4, .int (iI (c : Int))), (3, .ref t), (0, .ref b), (1, .ref a), (2, .int (iI (many : Int)))]) rfl rfl (by intro q hq; simp only [List.mem_cons, List.not_mem_nil, or_false] at hq; rcases hq with rfl | rfl | rfl | rfl | rfl | rfl <;> rfl) ?_
  exact KK
theorem l_rf225 {w : pW} {b t : Nat} {k c many : Nat} {T : St} (ht : tb w t T) {O Q : Nat → Prop} {a : Nat} {X : Sh} {pa fa ha : Nat} {pf gf hf : Nat → Option Nat} {ff : Nat → Nat} (hS : shP w O Q a X pa fa ha pf gf hf ff) (hR : Rel T X) {N9 : Nat} (hN : T.tn = (N9 : Int)) (hN2 : N9 ≤ 74) (hN0 : 0 < N9) {B9 e9 : Nat} (hB : B9 = T.thF (N9 - 1) 1 0) (he : e9 = T.lgs B9) {Φ : Option Value → pW → Prop} (KK : qE 156 (305, [(15, .int (iI T.rfY)), (14, .int (iI T.rfX)), (5, .int (iI (k : Int))), (4, .int (iI (c : Int))), (3, .ref t), (0, .ref b), (1, .ref a), (2, .int (iI (many : Int)))], [.int (iI T.rfY), .int (iI T.rfX), .ref a], w) Φ) : qE 156 (225, [(11, .int (iI (e9 : Int))), (6, .int (iI (B9 : Int))), (5, .int (iI (k : Int))), (4, .int (iI (c : Int))), (3, .ref t), (0, .ref b), (1, .ref a), (2, .int (iI (many : Int)))], [], w) Φ := by
  have hTo := tb_ok ht
  obtain ⟨L, M, K, pre, post, hb, hO⟩ := id ht
  obtain ⟨hb9, h0, h1, h2, h3, h4, h5, h6, h7, h8, h9⟩ := hS
  have hBN : B9 < N9 := by rw [hB]; rcases T.thF_lt (N9 - 1) 1 0 (by decide) with z | z <;> omega
  have he3 : e9 < 3 := by rw [he]; exact T.lgs_lt B9
  have hself := eqv_of hR hR
  obtain ⟨-, hA4, sA⟩ := eqv_cn hself hTo hTo hN hBN he3
  obtain ⟨-, hB4, sB⟩ := eqv_cn hself hTo hTo hN hBN (show (e9 + 1) % 3 < 3 by omega)
  have eTn : T.tn.toNat = N9 := by rw [hN]; rfl
  obtain ⟨A9, eA⟩ : ∃ A9 : Nat, T.cn B9 e9 = A9 := ⟨_, rfl⟩
  obtain ⟨C9, eC⟩ : ∃ C9 : Nat, T.cn B9 ((e9 + 1) % 3) = C9 := ⟨_, rfl⟩
  rw [eA] at hA4 sA
  rw [eC] at hB4 sB
  have eX : T.rfX = (T.xs A9 + T.xs C9) / 2 := by unfold St.rfX St.rfA St.rfB; rw [eTn, ← hB, ← he, eA, eC]
  have eY : T.rfY = (T.ys A9 + T.ys C9) / 2 := by unfold St.rfY St.rfA St.rfB; rw [eTn, ← hB, ← he, eA, eC]
  have bA := hTo.B A9 hA4
  have bC := hTo.B C9 hB4
  obtain ⟨rA, erA, -, hrA⟩ := h3 A9 _ _ _ hA4 (hR.pt hA4 sA)
  obtain ⟨rC, erC, -, hrC⟩ := h3 C9 _ _ _ hB4 (hR.pt hB4 sB)
  have hth := o_thinnest hb hO hN hN2 hN0
  rw [← hB] at hth
  refine pe_go (pc := 225) rfl (s_aload_n rfl) ?_
  refine pe_call rfl (s_invV rfl (OB.obj hb hO) rfl rfl) (hth) ?_
  refine pe_go (pc := 229) rfl (s_iload rfl) ?_
  refine pe_go rfl (s_icmp_eq_t ⟨by omega, by omega⟩ ⟨by omega, by omega⟩ rfl) ?_
  refine pe_go (pc := 236) rfl (s_aload_n rfl) ?_
  refine pe_go (pc := 237) rfl (s_getf (v := .ref pa) h0 rfl) ?_
  refine pe_go (pc := 240) rfl (s_aload_n rfl) ?_
  refine pe_go (pc := 241) rfl (s_iload rfl) ?_
  refine pe_go (pc := 243) rfl (s_iload rfl) ?_
  refine pe_call rfl (s_invV rfl (OB.obj hb hO) rfl rfl) (corner_at hb hO hN hN2 (t := B9) (k := e9) hBN he3 eA) ?_
  refine pe_go (pc := 248) rfl (s_aald h1 (k := A9) (by omega) (by omega) erA) ?_
  refine pe_go (pc := 249) rfl (s_astore (lv' := [(12, .ref rA), (11, .int (iI (e9 : Int))), (6, .int (iI (B9 : Int))), (5, .int (iI (k : Int))), (4, .int (iI (c : Int))), (3, .ref t), (0, .ref b), (1, .ref a), (2, .int (iI (many : Int)))]) rfl) ?_
  refine pe_go (pc := 251) rfl (s_aload_n rfl) ?_
  refine pe_go (pc := 252) rfl (s_getf (v := .ref pa) h0 rfl) ?_
  refine pe_go (pc := 255) rfl (s_aload_n rfl) ?_
  refine pe_go (pc := 256) rfl (s_iload rfl) ?_
  refine pe_go (pc := 258) rfl (s_iload rfl) ?_
  refine pe_go (pc := 260) rfl (s_iconst (z := 1) rfl) ?_
  refine pe_go (pc := 261) rfl s_iadd ?_
  refine pe_go (pc := 262) rfl (s_iconst (z := 3) rfl) ?_
  refine pe_go (pc := 263) rfl (s_irem ⟨by omega, by omega⟩ ⟨by decide, by decide⟩ (by decide) (by omega) (by rw [Int.tmod_eq_emod_of_nonneg (by omega)]; first | done | omega)) ?_
  refine pe_call rfl (s_invV rfl (OB.obj hb hO) rfl rfl) (corner_at hb hO hN hN2 (t := B9) (k := (e9 + 1) % 3) hBN (by omega) eC) ?_
  refine pe_go (pc := 267) rfl (s_aald h1 (k := C9) (by omega) (by omega) erC) ?_
  refine pe_go (pc := 268) rfl (s_astore (lv' := [(13, .ref rC), (12, .ref rA), (11, .int (iI (e9 : Int))), (6, .int (iI (B9 : Int))), (5, .int (iI (k : Int))), (4, .int (iI (c : Int))), (3, .ref t), (0, .ref b), (1, .ref a), (2, .int (iI (many : Int)))]) rfl) ?_
  refine pe_go (pc := 270) rfl (s_aload rfl) ?_
  refine pe_go (pc := 272) rfl (s_iconst (z := 0) rfl) ?_
  refine pe_go (pc := 273) rfl (s_iald (n := 3) (f := row3 (T.xs A9) (T.ys A9) (T.hs A9)) (v := T.xs A9) hrA (k := 0) (by omega) (by omega) (by decide) rfl) ?_
  refine pe_go (pc := 274) rfl (s_aload rfl) ?_
  refine pe_go (pc := 276) rfl (s_iconst (z := 0) rfl) ?_
  refine pe_go (pc := 277) rfl (s_iald (n := 3) (f := row3 (T.xs C9) (T.ys C9) (T.hs C9)) (v := T.xs C9) hrC (k := 0) (by omega) (by omega) (by decide) rfl) ?_
  refine pe_go (pc := 278) rfl s_iadd ?_
  refine pe_go (pc := 279) rfl (s_iconst (z := 2) rfl) ?_
  refine pe_call rfl (s_invS rfl rfl rfl) (w_down (v := (T.xs A9) + (T.xs C9)) (n := 2) ⟨by omega, by omega⟩ (by decide) (by decide)) ?_
  rw [← eX]
  refine pe_go (pc := 283) rfl (s_istore (lv' := [(14, .int (iI T.rfX)), (13, .ref rC), (12, .ref rA), (11, .int (iI (e9 : Int))), (6, .int (iI (B9 : Int))), (5, .int (iI (k : Int))), (4, .int (iI (c : Int))), (3, .ref t), (0, .ref b), (1, .ref a), (2, .int (iI (many : Int)))]) rfl) ?_
  refine pe_go (pc := 285) rfl (s_aload rfl) ?_
  refine pe_go (pc := 287) rfl (s_iconst (z := 1) rfl) ?_
  refine pe_go (pc := 288) rfl (s_iald (n := 3) (f := row3 (T.xs A9) (T.ys A9) (T.hs A9)) (v := T.ys A9) hrA (k := 1) (by omega) (by omega) (by decide) rfl) ?_
  refine pe_go (pc := 289) rfl (s_aload rfl) ?_
  refine pe_go (pc := 291) rfl (s_iconst (z := 1) rfl) ?_
  refine pe_go (pc := 292) rfl (s_iald (n := 3) (f := row3 (T.xs C9) (T.ys C9) (T.hs C9)) (v := T.ys C9) hrC (k := 1) (by omega) (by omega) (by decide) rfl) ?_
  refine pe_go (pc := 293) rfl s_iadd ?_
  refine pe_go (pc := 294) rfl (s_iconst (z := 2) rfl) ?_
  refine pe_call rfl (s_invS rfl rfl rfl) (w_down (v := (T.ys A9) + (T.ys C9)) (n := 2) ⟨by omega, by omega⟩ (by decide) (by decide)) ?_
  rw [← eY]
  refine pe_go (pc := 298) rfl (s_istore (lv' := [(15, .int (iI T.rfY)), (14, .int (iI T.rfX)), (13, .ref rC), (12, .ref rA), (11, .int (iI (e9 : Int))), (6, .int (iI (B9 : Int))), (5, .int (iI (k : Int))), (4, .int (iI (c : Int))), (3, .ref t), (0, .ref b), (1, .ref a), (2, .int (iI (many : Int)))]) rfl) ?_
  refine pe_go (pc := 300) rfl (s_aload_n rfl) ?_
  refine pe_go (pc := 301) rfl (s_iload rfl) ?_
  refine pe_go (pc := 303) rfl (s_iload rfl) ?_
  refine pe_few (lv := [(15, .int (iI T.rfY)), (14, .int (iI T.rfX)), (5, .int (iI (k : Int))), (4, .int (iI (c : Int))), (3, .ref t), (0, .ref b), (1, .ref a), (2, .int (iI (many : Int)))]) rfl rfl (by intro q hq; simp only [List.mem_cons, List.not_mem_nil, or_false] at hq; rcases hq with rfl | rfl | rfl | rfl | rfl | rfl | rfl | rfl <;> rfl) ?_
  exact KK
theorem l_rf308n {w : pW} {b t : Nat} {k c many a : Nat} {x y : Int} {Φ : Option Value → pW → Prop} (KK : qE 156 (342, [(5, .int (iI (k : Int))), (4, .int (iI (c : Int))), (3, .ref t), (0, .ref b), (1, .ref a), (2, .int (iI (many : Int)))], [], w) Φ) : qE 156 (308, [(15, .int (iI y)), (14, .int (iI x)), (5, .int (iI (k : Int))), (4, .int (iI (c : Int))), (3, .ref t), (0, .ref b), (1, .ref a), (2, .int (iI (many : Int)))], [.int (iI (-1))], w) Φ := by
  refine pe_go (pc := 308) rfl (s_istore (lv' := [(16, .int (iI (-1))), (15, .int (iI y)), (14, .int (iI x)), (5, .int (iI (k : Int))), (4, .int (iI (c : Int))), (3, .ref t), (0, .ref b), (1, .ref a), (2, .int (iI (many : Int)))]) rfl) ?_
  refine pe_go (pc := 310) rfl (s_iload rfl) ?_
  refine pe_go rfl (s_if_ge_f ⟨by decide, by decide⟩ (by decide)) ?_
  refine pe_go (pc := 315) rfl s_goto ?_
  refine pe_few (lv := [(5, .int (iI (k : Int))), (4, .int (iI (c : Int))), (3, .ref t), (0, .ref b), (1, .ref a), (2, .int (iI (many : Int)))]) rfl rfl (by intro q hq; simp only [List.mem_cons, List.not_mem_nil, or_false] at hq; rcases hq with rfl | rfl | rfl | rfl | rfl | rfl <;> rfl) ?_
  exact KK
theorem l_rf308y {w : pW} {b t : Nat} {k c many a f9 : Nat} {T : St} (ht : tb w t T) {x y : Int} (hx : sm x) (hy : sm y) (hf : f9 < 40) (htk : T.takes x y) (hlu : T.lu = (f9 : Int)) {Φ : Option Value → pW → Prop} (KK : ∀ (w' : pW) (R : St), T.laid R f9 x y → (T.u_hs (uZ T.hs f9 0)).rst R → tb w' t R → chg t w w' → qE 156 (17, [(5, .int (iI ((k + 1 : Nat) : Int))), (4, .int (iI ((c + 1 : Nat) : Int))), (3, .ref t), (0, .ref b), (1, .ref a), (2, .int (iI (many : Int)))], [], w') Φ) : qE 156 (308, [(15, .int (iI y)), (14, .int (iI x)), (5, .int (iI (k : Int))), (4, .int (iI (c : Int))), (3, .ref t), (0, .ref b), (1, .ref a), (2, .int (iI (many : Int)))], [.int (iI (f9 : Int))], w) Φ := by
  obtain ⟨fs, hto⟩ := tb_obj ht
  refine pe_go (pc := 308) rfl (s_istore (lv' := [(16, .int (iI (f9 : Int))), (15, .int (iI y)), (14, .int (iI x)), (5, .int (iI (k : Int))), (4, .int (iI (c : Int))), (3, .ref t), (0, .ref b), (1, .ref a), (2, .int (iI (many : Int)))]) rfl) ?_
  refine pe_go (pc := 310) rfl (s_iload rfl) ?_
  refine pe_go rfl (s_if_ge_t ⟨by omega, by omega⟩ (by omega)) ?_
  refine pe_go (pc := 318) rfl (s_aload_n rfl) ?_
  refine pe_go (pc := 319) rfl (s_iload rfl) ?_
  refine pe_go (pc := 321) rfl (s_iload rfl) ?_
  refine pe_callE rfl (s_invV rfl hto rfl rfl) (t_point ht hx hy htk) ?_
  rintro _ w1 ⟨p1, R1, hl1, rfl, hla1, hrs1, ht1, hc1⟩
  have ep : p1 = f9 := by omega
  subst ep
  refine pe_go (pc := 326) rfl (s_iload rfl) ?_
  refine pe_go rfl (s_icmp_eq_t ⟨by omega, by omega⟩ ⟨by omega, by omega⟩ rfl) ?_
  refine pe_go (pc := 333) rfl (s_iinc (x := (c : Int)) (y := ((c + 1 : Nat) : Int)) rfl (by omega) (lv' := [(4, .int (iI ((c + 1 : Nat) : Int))), (16, .int (iI (p1 : Int))), (15, .int (iI y)), (14, .int (iI x)), (5, .int (iI (k : Int))), (3, .ref t), (0, .ref b), (1, .ref a), (2, .int (iI (many : Int)))]) rfl) ?_
  refine pe_go (pc := 336) rfl (s_iinc (x := (k : Int)) (y := ((k + 1 : Nat) : Int)) rfl (by omega) (lv' := [(5, .int (iI ((k + 1 : Nat) : Int))), (4, .int (iI ((c + 1 : Nat) : Int))), (16, .int (iI (p1 : Int))), (15, .int (iI y)), (14, .int (iI x)), (3, .ref t), (0, .ref b), (1, .ref a), (2, .int (iI (many : Int)))]) rfl) ?_
  refine pe_go (pc := 339) rfl s_goto ?_
  refine pe_few (lv := [(5, .int (iI ((k + 1 : Nat) : Int))), (4, .int (iI ((c + 1 : Nat) : Int))), (3, .ref t), (0, .ref b), (1, .ref a), (2, .int (iI (many : Int)))]) rfl rfl (by intro q hq; simp only [List.mem_cons, List.not_mem_nil, or_false] at hq; rcases hq with rfl | rfl | rfl | rfl | rfl | rfl <;> rfl) ?_
  exact KK _ _ hla1 hrs1 ht1 hc1
theorem k_refR {w : pW} {b : Nat} {S : St} {L M : List St} {K : St} (h : obk w b S L M K) {n : Nat} (hn0 : 1 ≤ n) (hn : n ≤ 10) : qC 94 [.ref b, .int (iI (n : Int))] w (fun r w' => ∃ (S' : St) (c : Nat), refR n S 0 S' c ∧ r = some (.int (iI (c : Int))) ∧ obk w' b S' (pshL S L) M K ∧ chg b w w') := by
  obtain ⟨pre, post, hb, hO⟩ := h
  refine qc_mono (o_refine hb hO hn0 hn) (fun r w' z => ?_)
  obtain ⟨S', c, z1, z2, z3⟩ := z
  exact ⟨S', c, z1, z2, ⟨pre, post, hb, z3⟩, OB_chg hb hO z3⟩
theorem obk_obj {w : pW} {b : Nat} {S : St} {L M : List St} {K : St} (h : obk w b S L M K) : ∃ fs : List Value, w[b]? = some (.inr (8, fs)) := by
  obtain ⟨pre, post, hb, hO⟩ := h
  exact ⟨_, OB.obj hb hO⟩
theorem l_rf342 {w : pW} {b t a k c many : Nat} {S : St} {L M : List St} {K : St} (hk : obk w b S L M K) (h1 : 1 ≤ many) (h2 : many ≤ 10) (hc9 : c ≤ 10) (hcq : ∀ (S' : St) (c' : Nat), refR many S 0 S' c' → c' = c) {Φ : Option Value → pW → Prop} (KK : ∀ (w' : pW) (S' : St), refR many S 0 S' c → obk w' b S' (pshL S L) M K → chg b w w' → Φ (some (.int (iI (c : Int)))) w') : qE 156 (342, [(5, .int (iI (k : Int))), (4, .int (iI (c : Int))), (3, .ref t), (0, .ref b), (1, .ref a), (2, .int (iI (many : Int)))], [], w) Φ := by
  obtain ⟨fs, hbo⟩ := obk_obj hk
  refine pe_go (pc := 342) rfl (s_aload_n rfl) ?_
  refine pe_go (pc := 343) rfl (s_iload_n rfl) ?_
  refine pe_callE rfl (s_invV rfl hbo rfl rfl) (k_refR hk h1 h2) ?_
  rintro _ w1 ⟨S1, c1, hr1, rfl, ho1, hc1⟩
  have hcc : c1 = c := hcq _ _ hr1
  subst hcc
  refine pe_go (pc := 347) rfl (s_iload rfl) ?_
  refine pe_go rfl (s_icmp_ne_f ⟨by omega, by omega⟩ ⟨by omega, by omega⟩ (fun e => e rfl)) ?_
  refine pe_go (pc := 352) rfl (s_iload rfl) ?_
  refine pe_go (pc := 354) rfl s_goto ?_
  exact pe_ret rfl s_reti (KK _ _ hr1 ho1 hc1)
