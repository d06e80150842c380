/-! THE LAW: one triangle, piece by piece. Rows laid by program (wip/p63/wk.py, hw.py, mk98v.py). -/
theorem code_at {pre post : pW} {b : Nat} (hb : pre.length = b) {S : St} {L M : List St} {K : St} {w : pW} (hO : OB pre post b S L M K w) {T : Nat} (hT : S.tn = (T : Int)) (hT2 : T ≤ 74) {t p0 p1 p2 : Nat} (ht : t < T) (k : S.tri3 t p0 p1 p2) : pRun 153 [.ref b, .int (iI (t : Int))] w (some (.int (iI (1600 * (p0 : Int) + 40 * (p1 : Int) + (p2 : Int))))) w := by
  have := w_code hb hO hT hT2 ht
  rw [k.2.2.1.1, k.2.2.1.2.1, k.2.2.1.2.2] at this
  exact this
theorem area_at {pre post : pW} {b : Nat} (hb : pre.length = b) {S : St} {L M : List St} {K : St} {w : pW} (hO : OB pre post b S L M K w) {T : Nat} (hT : S.tn = (T : Int)) (hT2 : T ≤ 74) {t p0 p1 p2 : Nat} (ht : t < T) (k : S.tri3 t p0 p1 p2) : pRun 111 [.ref b, .int (iI (t : Int))] w (some (.int (iI (S.sd3 p0 p1 p2)))) w := by
  have := o_area hb hO hT hT2 ht
  rw [k.2.2.1.1, k.2.2.1.2.1, k.2.2.1.2.2] at this
  exact this
theorem tri_of {pre post : pW} {b : Nat} (hb : pre.length = b) {S : St} {L M : List St} {K : St} {w : pW} (hO : OB pre post b S L M K w) {t p0 p1 p2 : Nat} (k : S.tri3 t p0 p1 p2) : pRun 112 [.ref b, .int (iI (p1 : Int)), .int (iI (p0 : Int)), .int (iI (p2 : Int))] w (some (.int (iI (t : Int)))) w := by
  obtain ⟨⟨hp0, hp1, hp2⟩, -, -, ⟨s0, s1, s2⟩, hpos, ⟨e1, -, -⟩, ⟨w1, -, -⟩, -⟩ := k
  have := o_triangle hb hO hp1 hp0 hp2 s1 s0 s2 (fun z => by
    have g := (hO.1.M.1.PM.2.2 p1 p0 p2 hp1 hp0 hp2 z).2.2.2
    have := S.sd3_swap p0 p1 p2
    omega) e1
  rw [w1] at this
  exact this
theorem St.Ok.sq {S : St} (h : S.Ok) {p : Nat} (hp : p < 40) : inSq (S.xs p) (S.ys p) := by
  have b := h.B p hp
  unfold inSq
  omega
theorem St.Ok.sdb {S : St} (h : S.Ok) {a b c : Nat} (ha : a < 40) (hb : b < 40) (hc : c < 40) : -8000000 ≤ S.sd3 a b c ∧ S.sd3 a b c ≤ 8000000 := sd2_b (h.sq ha) (h.sq hb) (h.sq hc)
theorem l_tri1 {w : pW} {pre post : pW} {b : Nat} (hb : pre.length = b) {S : St} {L M : List St} {K : St} (hO : OB pre post b S L M K w) {O Q : Nat → Prop} {a : Nat} {X : Sh} {pa fa ha : Nat} {pf gf hf : Nat → Option Nat} {ff : Nat → Nat} (hS : shP w O Q a X pa fa ha pf gf hf ff) (hR : Rel S X) {T : Nat} (hT : S.tn = (T : Int)) (hT2 : T ≤ 74) {t p0 p1 p2 e : Nat} (ht : t < T) (k3 : S.tri3 t p0 p1 p2) (he : rowI w e 3 (row3 (p0 : Int) (p1 : Int) (p2 : Int))) {q : Nat} {x3 x4 x5 x6 x7 x8 : Int} {Φ : Option Value → pW → Prop} (KK : qE 151 (168, [(11, .ref e), (10, .int (iI (t : Int))), (9, .ref q), (8, .int (iI x8)), (7, .int (iI x7)), (6, .int (iI x6)), (5, .int (iI x5)), (4, .int (iI x4)), (3, .int (iI x3)), (2, .int (iI (T : Int))), (0, .ref b), (1, .ref a)], [], w) Φ) : qE 151 (77, [(11, .ref e), (10, .int (iI (t : Int))), (9, .ref q), (8, .int (iI x8)), (7, .int (iI x7)), (6, .int (iI x6)), (5, .int (iI x5)), (4, .int (iI x4)), (3, .int (iI x3)), (2, .int (iI (T : Int))), (0, .ref b), (1, .ref a)], [], w) Φ := by
  obtain ⟨hb9, h0, h1, h2, h3, h4, h5, h6, h7, h8, h9⟩ := hS
  have k9 := k3
  obtain ⟨⟨hp0, hp1, hp2⟩, ⟨o1, o2⟩, ⟨hc0, hc1, hc2⟩, ⟨s0, s1, s2⟩, hpos, -, -, -⟩ := k9
  obtain ⟨r0, er0, -, hr0⟩ := h3 p0 _ _ _ hp0 (hR.pt hp0 s0)
  obtain ⟨r1, er1, -, hr1⟩ := h3 p1 _ _ _ hp1 (hR.pt hp1 s1)
  obtain ⟨r2, er2, -, hr2⟩ := h3 p2 _ _ _ hp2 (hR.pt hp2 s2)
  have sB := (hO.1.sdb hp0 hp1 hp2).2
  rcases t with _ | u
  · skip
    refine pe_go (pc := 77) rfl (s_aload rfl) ?_
    refine pe_go (pc := 79) rfl (s_iconst (z := 0) rfl) ?_
    refine pe_go (pc := 80) rfl (s_iald (n := 3) (f := row3 (p0 : Int) (p1 : Int) (p2 : Int)) (v := (p0 : Int)) he (k := 0) (by omega) (by omega) (by decide) rfl) ?_
    refine pe_go rfl (s_if_lt_f ⟨by omega, by omega⟩ (by omega)) ?_
    refine pe_go (pc := 84) rfl (s_aload rfl) ?_
    refine pe_go (pc := 86) rfl (s_iconst (z := 1) rfl) ?_
    refine pe_go (pc := 87) rfl (s_iald (n := 3) (f := row3 (p0 : Int) (p1 : Int) (p2 : Int)) (v := (p1 : Int)) he (k := 1) (by omega) (by omega) (by decide) rfl) ?_
    refine pe_go (pc := 88) rfl (s_aload rfl) ?_
    refine pe_go (pc := 90) rfl (s_iconst (z := 0) rfl) ?_
    refine pe_go (pc := 91) rfl (s_iald (n := 3) (f := row3 (p0 : Int) (p1 : Int) (p2 : Int)) (v := (p0 : Int)) he (k := 0) (by omega) (by omega) (by decide) rfl) ?_
    refine pe_go rfl (s_icmp_le_f ⟨by omega, by omega⟩ ⟨by omega, by omega⟩ (by omega)) ?_
    refine pe_go (pc := 95) rfl (s_aload rfl) ?_
    refine pe_go (pc := 97) rfl (s_iconst (z := 2) rfl) ?_
    refine pe_go (pc := 98) rfl (s_iald (n := 3) (f := row3 (p0 : Int) (p1 : Int) (p2 : Int)) (v := (p2 : Int)) he (k := 2) (by omega) (by omega) (by decide) rfl) ?_
    refine pe_go (pc := 99) rfl (s_aload rfl) ?_
    refine pe_go (pc := 101) rfl (s_iconst (z := 0) rfl) ?_
    refine pe_go (pc := 102) rfl (s_iald (n := 3) (f := row3 (p0 : Int) (p1 : Int) (p2 : Int)) (v := (p0 : Int)) he (k := 0) (by omega) (by omega) (by decide) rfl) ?_
    refine pe_go rfl (s_icmp_le_f ⟨by omega, by omega⟩ ⟨by omega, by omega⟩ (by omega)) ?_
    refine pe_go (pc := 106) rfl (s_aload_n rfl) ?_
    refine pe_go (pc := 107) rfl (s_getf (v := .ref pa) h0 rfl) ?_
    refine pe_go (pc := 110) rfl (s_aload rfl) ?_
    refine pe_go (pc := 112) rfl (s_iconst (z := 0) rfl) ?_
    refine pe_go (pc := 113) rfl (s_iald (n := 3) (f := row3 (p0 : Int) (p1 : Int) (p2 : Int)) (v := (p0 : Int)) he (k := 0) (by omega) (by omega) (by decide) rfl) ?_
    refine pe_go (pc := 114) rfl (s_aald h1 (k := p0) (by omega) (by omega) er0) ?_
    refine pe_go (pc := 115) rfl s_ifnull_f ?_
    refine pe_go (pc := 118) rfl (s_aload_n rfl) ?_
    refine pe_go (pc := 119) rfl (s_getf (v := .ref pa) h0 rfl) ?_
    refine pe_go (pc := 122) rfl (s_aload rfl) ?_
    refine pe_go (pc := 124) rfl (s_iconst (z := 1) rfl) ?_
    refine pe_go (pc := 125) rfl (s_iald (n := 3) (f := row3 (p0 : Int) (p1 : Int) (p2 : Int)) (v := (p1 : Int)) he (k := 1) (by omega) (by omega) (by decide) rfl) ?_
    refine pe_go (pc := 126) rfl (s_aald h1 (k := p1) (by omega) (by omega) er1) ?_
    refine pe_go (pc := 127) rfl s_ifnull_f ?_
    refine pe_go (pc := 130) rfl (s_aload_n rfl) ?_
    refine pe_go (pc := 131) rfl (s_getf (v := .ref pa) h0 rfl) ?_
    refine pe_go (pc := 134) rfl (s_aload rfl) ?_
    refine pe_go (pc := 136) rfl (s_iconst (z := 2) rfl) ?_
    refine pe_go (pc := 137) rfl (s_iald (n := 3) (f := row3 (p0 : Int) (p1 : Int) (p2 : Int)) (v := (p2 : Int)) he (k := 2) (by omega) (by omega) (by decide) rfl) ?_
    refine pe_go (pc := 138) rfl (s_aald h1 (k := p2) (by omega) (by omega) er2) ?_
    refine pe_go (pc := 139) rfl s_ifnonnull_t ?_
    refine pe_go (pc := 144) rfl (s_iload rfl) ?_
    refine pe_go rfl (s_if_le_t ⟨by omega, by omega⟩ (by omega)) ?_
    refine pe_few (lv := [(11, .ref e), (10, .int (iI ((0 : Nat) : Int))), (9, .ref q), (8, .int (iI x8)), (7, .int (iI x7)), (6, .int (iI x6)), (5, .int (iI x5)), (4, .int (iI x4)), (3, .int (iI x3)), (2, .int (iI (T : Int))), (0, .ref b), (1, .ref a)]) rfl rfl (by intro q hq; simp only [List.mem_cons, List.not_mem_nil, or_false] at hq; rcases hq with rfl | rfl | rfl | rfl | rfl | rfl | rfl | rfl | rfl | rfl | rfl | rfl <;> rfl) ?_
    exact KK
  · skip
    obtain ⟨v0, v1, v2, k3v⟩ := hO.1.tri3 hT (t := u) (by omega)
    have hlt := k3v.lt k3
    obtain ⟨hv0, hv1, hv2⟩ := k3v.1
    refine pe_go (pc := 77) rfl (s_aload rfl) ?_
    refine pe_go (pc := 79) rfl (s_iconst (z := 0) rfl) ?_
    refine pe_go (pc := 80) rfl (s_iald (n := 3) (f := row3 (p0 : Int) (p1 : Int) (p2 : Int)) (v := (p0 : Int)) he (k := 0) (by omega) (by omega) (by decide) rfl) ?_
    refine pe_go rfl (s_if_lt_f ⟨by omega, by omega⟩ (by omega)) ?_
    refine pe_go (pc := 84) rfl (s_aload rfl) ?_
    refine pe_go (pc := 86) rfl (s_iconst (z := 1) rfl) ?_
    refine pe_go (pc := 87) rfl (s_iald (n := 3) (f := row3 (p0 : Int) (p1 : Int) (p2 : Int)) (v := (p1 : Int)) he (k := 1) (by omega) (by omega) (by decide) rfl) ?_
    refine pe_go (pc := 88) rfl (s_aload rfl) ?_
    refine pe_go (pc := 90) rfl (s_iconst (z := 0) rfl) ?_
    refine pe_go (pc := 91) rfl (s_iald (n := 3) (f := row3 (p0 : Int) (p1 : Int) (p2 : Int)) (v := (p0 : Int)) he (k := 0) (by omega) (by omega) (by decide) rfl) ?_
    refine pe_go rfl (s_icmp_le_f ⟨by omega, by omega⟩ ⟨by omega, by omega⟩ (by omega)) ?_
    refine pe_go (pc := 95) rfl (s_aload rfl) ?_
    refine pe_go (pc := 97) rfl (s_iconst (z := 2) rfl) ?_
    refine pe_go (pc := 98) rfl (s_iald (n := 3) (f := row3 (p0 : Int) (p1 : Int) (p2 : Int)) (v := (p2 : Int)) he (k := 2) (by omega) (by omega) (by decide) rfl) ?_
    refine pe_go (pc := 99) rfl (s_aload rfl) ?_
    refine pe_go (pc := 101) rfl (s_iconst (z := 0) rfl) ?_
    refine pe_go (pc := 102) rfl (s_iald (n := 3) (f := row3 (p0 : Int) (p1 : Int) (p2 : Int)) (v := (p0 : Int)) he (k := 0) (by omega) (by omega) (by decide) rfl) ?_
    refine pe_go rfl (s_icmp_le_f ⟨by omega, by omega⟩ ⟨by omega, by omega⟩ (by omega)) ?_
    refine pe_go (pc := 106) rfl (s_aload_n rfl) ?_
    refine pe_go (pc := 107) rfl (s_getf (v := .ref pa) h0 rfl) ?_
    refine pe_go (pc := 110) rfl (s_aload rfl) ?_
    refine pe_go (pc := 112) rfl (s_iconst (z := 0) rfl) ?_
    refine pe_go (pc := 113) rfl (s_iald (n := 3) (f := row3 (p0 : Int) (p1 : Int) (p2 : Int)) (v := (p0 : Int)) he (k := 0) (by omega) (by omega) (by decide) rfl) ?_
    refine pe_go (pc := 114) rfl (s_aald h1 (k := p0) (by omega) (by omega) er0) ?_
    refine pe_go (pc := 115) rfl s_ifnull_f ?_
    refine pe_go (pc := 118) rfl (s_aload_n rfl) ?_
    refine pe_go (pc := 119) rfl (s_getf (v := .ref pa) h0 rfl) ?_
    refine pe_go (pc := 122) rfl (s_aload rfl) ?_
    refine pe_go (pc := 124) rfl (s_iconst (z := 1) rfl) ?_
    refine pe_go (pc := 125) rfl (s_iald (n := 3) (f := row3 (p0 : Int) (p1 : Int) (p2 : Int)) (v := (p1 : Int)) he (k := 1) (by omega) (by omega) (by decide) rfl) ?_
    refine pe_go (pc := 126) rfl (s_aald h1 (k := p1) (by omega) (by omega) er1) ?_
    refine pe_go (pc := 127) rfl s_ifnull_f ?_
    refine pe_go (pc := 130) rfl (s_aload_n rfl) ?_
    refine pe_go (pc := 131) rfl (s_getf (v := .ref pa) h0 rfl) ?_
    refine pe_go (pc := 134) rfl (s_aload rfl) ?_
    refine pe_go (pc := 136) rfl (s_iconst (z := 2) rfl) ?_
    refine pe_go (pc := 137) rfl (s_iald (n := 3) (f := row3 (p0 : Int) (p1 : Int) (p2 : Int)) (v := (p2 : Int)) he (k := 2) (by omega) (by omega) (by decide) rfl) ?_
    refine pe_go (pc := 138) rfl (s_aald h1 (k := p2) (by omega) (by omega) er2) ?_
    refine pe_go (pc := 139) rfl s_ifnonnull_t ?_
    refine pe_go (pc := 144) rfl (s_iload rfl) ?_
    refine pe_go rfl (s_if_le_f ⟨by omega, by omega⟩ (by omega)) ?_
    refine pe_go (pc := 149) rfl (s_aload_n rfl) ?_
    refine pe_go (pc := 150) rfl (s_iload rfl) ?_
    refine pe_call rfl (s_invS rfl rfl rfl) (code_at hb hO hT hT2 (t := u + 1) ht k3) ?_
    refine pe_go (pc := 155) rfl (s_aload_n rfl) ?_
    refine pe_go (pc := 156) rfl (s_iload rfl) ?_
    refine pe_go (pc := 158) rfl (s_iconst (z := 1) rfl) ?_
    refine pe_go (pc := 159) rfl s_isub ?_
    rw [show ((u + 1 : Nat) : Int) - 1 = (u : Int) by omega]
    refine pe_call rfl (s_invS rfl rfl rfl) (code_at hb hO hT hT2 (t := u) (by omega) k3v) ?_
    refine pe_go rfl (s_icmp_gt_t ⟨by omega, by omega⟩ ⟨by omega, by omega⟩ (by omega)) ?_
    refine pe_few (lv := [(11, .ref e), (10, .int (iI ((u + 1 : Nat) : Int))), (9, .ref q), (8, .int (iI x8)), (7, .int (iI x7)), (6, .int (iI x6)), (5, .int (iI x5)), (4, .int (iI x4)), (3, .int (iI x3)), (2, .int (iI (T : Int))), (0, .ref b), (1, .ref a)]) rfl rfl (by intro q hq; simp only [List.mem_cons, List.not_mem_nil, or_false] at hq; rcases hq with rfl | rfl | rfl | rfl | rfl | rfl | rfl | rfl | rfl | rfl | rfl | rfl <;> rfl) ?_
    exact KK
theorem l_tri2 {w : pW} {pre post : pW} {b : Nat} (hb : pre.length = b) {S : St} {L M : List St} {K : St} (hO : OB pre post b S L M K w) {O Q : Nat → Prop} {a : Nat} {X : Sh} {pa fa ha : Nat} {pf gf hf : Nat → Option Nat} {ff : Nat → Nat} (hS : shP w O Q a X pa fa ha pf gf hf ff) (hR : Rel S X) {T : Nat} (hT : S.tn = (T : Int)) (hT2 : T ≤ 74) {t p0 p1 p2 e : Nat} (ht : t < T) (k3 : S.tri3 t p0 p1 p2) (he : rowI w e 3 (row3 (p0 : Int) (p1 : Int) (p2 : Int))) {q : Nat} {x3 x4 x5 x6 x7 x8 : Int} {Φ : Option Value → pW → Prop} (KK : qE 151 (257, [(11, .ref e), (10, .int (iI (t : Int))), (9, .ref q), (8, .int (iI x8)), (7, .int (iI x7)), (6, .int (iI x6)), (5, .int (iI x5)), (4, .int (iI x4)), (3, .int (iI (x3 + S.sd3 p0 p1 p2))), (2, .int (iI (T : Int))), (0, .ref b), (1, .ref a)], [], w) Φ) : qE 151 (168, [(11, .ref e), (10, .int (iI (t : Int))), (9, .ref q), (8, .int (iI x8)), (7, .int (iI x7)), (6, .int (iI x6)), (5, .int (iI x5)), (4, .int (iI x4)), (3, .int (iI x3)), (2, .int (iI (T : Int))), (0, .ref b), (1, .ref a)], [], w) Φ := by
  obtain ⟨hb9, h0, h1, h2, h3, h4, h5, h6, h7, h8, h9⟩ := hS
  have k9 := k3
  obtain ⟨⟨hp0, hp1, hp2⟩, ⟨o1, o2⟩, ⟨hc0, hc1, hc2⟩, ⟨s0, s1, s2⟩, hpos, -, -, -⟩ := k9
  obtain ⟨r0, er0, -, hr0⟩ := h3 p0 _ _ _ hp0 (hR.pt hp0 s0)
  obtain ⟨r1, er1, -, hr1⟩ := h3 p1 _ _ _ hp1 (hR.pt hp1 s1)
  obtain ⟨r2, er2, -, hr2⟩ := h3 p2 _ _ _ hp2 (hR.pt hp2 s2)
  have sB := (hO.1.sdb hp0 hp1 hp2).2
  refine pe_go (pc := 168) rfl (s_aload_n rfl) ?_
  refine pe_go (pc := 169) rfl (s_getf (v := .ref pa) h0 rfl) ?_
  refine pe_go (pc := 172) rfl (s_aload rfl) ?_
  refine pe_go (pc := 174) rfl (s_iconst (z := 0) rfl) ?_
  refine pe_go (pc := 175) rfl (s_iald (n := 3) (f := row3 (p0 : Int) (p1 : Int) (p2 : Int)) (v := (p0 : Int)) he (k := 0) (by omega) (by omega) (by decide) rfl) ?_
  refine pe_go (pc := 176) rfl (s_aald h1 (k := p0) (by omega) (by omega) er0) ?_
  refine pe_go (pc := 177) rfl (s_aload_n rfl) ?_
  refine pe_go (pc := 178) rfl (s_getf (v := .ref pa) h0 rfl) ?_
  refine pe_go (pc := 181) rfl (s_aload rfl) ?_
  refine pe_go (pc := 183) rfl (s_iconst (z := 1) rfl) ?_
  refine pe_go (pc := 184) rfl (s_iald (n := 3) (f := row3 (p0 : Int) (p1 : Int) (p2 : Int)) (v := (p1 : Int)) he (k := 1) (by omega) (by omega) (by decide) rfl) ?_
  refine pe_go (pc := 185) rfl (s_aald h1 (k := p1) (by omega) (by omega) er1) ?_
  refine pe_go (pc := 186) rfl (s_aload_n rfl) ?_
  refine pe_go (pc := 187) rfl (s_getf (v := .ref pa) h0 rfl) ?_
  refine pe_go (pc := 190) rfl (s_aload rfl) ?_
  refine pe_go (pc := 192) rfl (s_iconst (z := 2) rfl) ?_
  refine pe_go (pc := 193) rfl (s_iald (n := 3) (f := row3 (p0 : Int) (p1 : Int) (p2 : Int)) (v := (p2 : Int)) he (k := 2) (by omega) (by omega) (by decide) rfl) ?_
  refine pe_go (pc := 194) rfl (s_aald h1 (k := p2) (by omega) (by omega) er2) ?_
  refine pe_go (pc := 195) rfl (s_iconst (z := 0) rfl) ?_
  refine pe_go (pc := 196) rfl (s_iald (n := 3) (f := row3 (S.xs p2) (S.ys p2) (S.hs p2)) (v := S.xs p2) hr2 (k := 0) (by omega) (by omega) (by decide) rfl) ?_
  refine pe_go (pc := 197) rfl (s_aload_n rfl) ?_
  refine pe_go (pc := 198) rfl (s_getf (v := .ref pa) h0 rfl) ?_
  refine pe_go (pc := 201) rfl (s_aload rfl) ?_
  refine pe_go (pc := 203) rfl (s_iconst (z := 2) rfl) ?_
  refine pe_go (pc := 204) rfl (s_iald (n := 3) (f := row3 (p0 : Int) (p1 : Int) (p2 : Int)) (v := (p2 : Int)) he (k := 2) (by omega) (by omega) (by decide) rfl) ?_
  refine pe_go (pc := 205) rfl (s_aald h1 (k := p2) (by omega) (by omega) er2) ?_
  refine pe_go (pc := 206) rfl (s_iconst (z := 1) rfl) ?_
  refine pe_go (pc := 207) rfl (s_iald (n := 3) (f := row3 (S.xs p2) (S.ys p2) (S.hs p2)) (v := S.ys p2) hr2 (k := 1) (by omega) (by omega) (by decide) rfl) ?_
  refine pe_call rfl (s_invS rfl rfl rfl) (show pRun 146 _ w (some (.int (iI (S.sd3 p0 p1 p2)))) w from w_side hr0 hr1) ?_
  refine pe_go (pc := 211) rfl (s_istore (lv' := [(12, .int (iI (S.sd3 p0 p1 p2))), (11, .ref e), (10, .int (iI (t : Int))), (9, .ref q), (8, .int (iI x8)), (7, .int (iI x7)), (6, .int (iI x6)), (5, .int (iI x5)), (4, .int (iI x4)), (3, .int (iI x3)), (2, .int (iI (T : Int))), (0, .ref b), (1, .ref a)]) rfl) ?_
  refine pe_go (pc := 213) rfl (s_iload rfl) ?_
  refine pe_go rfl (s_if_le_f ⟨by omega, by omega⟩ (by omega)) ?_
  refine pe_go (pc := 218) rfl (s_aload_n rfl) ?_
  refine pe_go (pc := 219) rfl (s_iload rfl) ?_
  refine pe_call rfl (s_invV rfl (OB.obj hb hO) rfl rfl) (area_at hb hO hT hT2 ht k3) ?_
  refine pe_go (pc := 224) rfl (s_iload rfl) ?_
  refine pe_go rfl (s_icmp_ne_f ⟨by omega, by omega⟩ ⟨by omega, by omega⟩ (fun e => e rfl)) ?_
  refine pe_go (pc := 229) rfl (s_aload_n rfl) ?_
  refine pe_go (pc := 230) rfl (s_aload rfl) ?_
  refine pe_go (pc := 232) rfl (s_iconst (z := 1) rfl) ?_
  refine pe_go (pc := 233) rfl (s_iald (n := 3) (f := row3 (p0 : Int) (p1 : Int) (p2 : Int)) (v := (p1 : Int)) he (k := 1) (by omega) (by omega) (by decide) rfl) ?_
  refine pe_go (pc := 234) rfl (s_aload rfl) ?_
  refine pe_go (pc := 236) rfl (s_iconst (z := 0) rfl) ?_
  refine pe_go (pc := 237) rfl (s_iald (n := 3) (f := row3 (p0 : Int) (p1 : Int) (p2 : Int)) (v := (p0 : Int)) he (k := 0) (by omega) (by omega) (by decide) rfl) ?_
  refine pe_go (pc := 238) rfl (s_aload rfl) ?_
  refine pe_go (pc := 240) rfl (s_iconst (z := 2) rfl) ?_
  refine pe_go (pc := 241) rfl (s_iald (n := 3) (f := row3 (p0 : Int) (p1 : Int) (p2 : Int)) (v := (p2 : Int)) he (k := 2) (by omega) (by omega) (by decide) rfl) ?_
  refine pe_call rfl (s_invV rfl (OB.obj hb hO) rfl rfl) (tri_of hb hO k3) ?_
  refine pe_go (pc := 245) rfl (s_iload rfl) ?_
  refine pe_go rfl (s_icmp_eq_t ⟨by omega, by omega⟩ ⟨by omega, by omega⟩ rfl) ?_
  refine pe_go (pc := 252) rfl (s_iload_n rfl) ?_
  refine pe_go (pc := 253) rfl (s_iload rfl) ?_
  refine pe_go (pc := 255) rfl s_iadd ?_
  refine pe_go (pc := 256) rfl (s_istore_n (lv' := [(3, .int (iI (x3 + (S.sd3 p0 p1 p2)))), (12, .int (iI (S.sd3 p0 p1 p2))), (11, .ref e), (10, .int (iI (t : Int))), (9, .ref q), (8, .int (iI x8)), (7, .int (iI x7)), (6, .int (iI x6)), (5, .int (iI x5)), (4, .int (iI x4)), (2, .int (iI (T : Int))), (0, .ref b), (1, .ref a)]) rfl) ?_
  refine pe_few (lv := [(11, .ref e), (10, .int (iI (t : Int))), (9, .ref q), (8, .int (iI x8)), (7, .int (iI x7)), (6, .int (iI x6)), (5, .int (iI x5)), (4, .int (iI x4)), (3, .int (iI (x3 + S.sd3 p0 p1 p2))), (2, .int (iI (T : Int))), (0, .ref b), (1, .ref a)]) rfl rfl (by intro q hq; simp only [List.mem_cons, List.not_mem_nil, or_false] at hq; rcases hq with rfl | rfl | rfl | rfl | rfl | rfl | rfl | rfl | rfl | rfl | rfl | rfl <;> rfl) ?_
  exact KK
theorem l_left0 {w : pW} {a b q e t T p0 p1 p2 : Nat} (he : rowI w e 3 (row3 (p0 : Int) (p1 : Int) (p2 : Int))) {tf : Nat → Option Nat} {tr : Nat → Nat} {G : Nat → Nat → Int} (hT9 : tabAt w q tf tr G) (hx : p0 < 40) (hy : p1 < 40) (h0 : G p0 p1 = 0) {x3 x4 x5 x6 x7 x8 : Int} {Φ : Option Value → pW → Prop} (KK : qE 151 (260, [(13, .int (iI 1)), (11, .ref e), (10, .int (iI (t : Int))), (9, .ref q), (8, .int (iI x8)), (7, .int (iI x7)), (6, .int (iI x6)), (5, .int (iI x5)), (4, .int (iI x4)), (3, .int (iI x3)), (2, .int (iI (T : Int))), (0, .ref b), (1, .ref a)], [], w.set (tr p0) (.inl (0, 40, .inl (fun j => iI (uZ (G p0) p1 ((t : Int) + 1) j))))) Φ) : qE 151 (260, [(13, .int (iI 0)), (11, .ref e), (10, .int (iI (t : Int))), (9, .ref q), (8, .int (iI x8)), (7, .int (iI x7)), (6, .int (iI x6)), (5, .int (iI x5)), (4, .int (iI x4)), (3, .int (iI x3)), (2, .int (iI (T : Int))), (0, .ref b), (1, .ref a)], [], w) Φ := by
  obtain ⟨efx, hrx⟩ := hT9.2 p0 hx
  refine pe_go (pc := 260) rfl (s_iload rfl) ?_
  refine pe_go (pc := 262) rfl (s_iconst (z := 3) rfl) ?_
  refine pe_go rfl (s_icmp_ge_f ⟨by decide, by decide⟩ ⟨by decide, by decide⟩ (by decide)) ?_
  refine pe_go (pc := 266) rfl (s_aload rfl) ?_
  refine pe_go (pc := 268) rfl (s_aload rfl) ?_
  refine pe_go (pc := 270) rfl (s_iload rfl) ?_
  refine pe_go (pc := 272) rfl (s_iald (n := 3) (f := row3 (p0 : Int) (p1 : Int) (p2 : Int)) (v := (p0 : Int)) he (k := 0) (by omega) (by omega) (by decide) rfl) ?_
  refine pe_go (pc := 273) rfl (s_aald hT9.1 (k := p0) (by omega) (by omega) efx) ?_
  refine pe_go (pc := 274) rfl (s_aload rfl) ?_
  refine pe_go (pc := 276) rfl (s_iload rfl) ?_
  refine pe_go (pc := 278) rfl (s_iconst (z := 1) rfl) ?_
  refine pe_go (q := (280, [(13, .int (iI 0)), (11, .ref e), (10, .int (iI (t : Int))), (9, .ref q), (8, .int (iI x8)), (7, .int (iI x7)), (6, .int (iI x6)), (5, .int (iI x5)), (4, .int (iI x4)), (3, .int (iI x3)), (2, .int (iI (T : Int))), (0, .ref b), (1, .ref a)], [.int (iI 1), .ref e, .ref (tr p0)], w)) rfl s_iadd ?_
  refine pe_go (pc := 280) rfl (s_iconst (z := 3) rfl) ?_
  refine pe_go (pc := 281) rfl (s_irem ⟨by decide, by decide⟩ ⟨by decide, by decide⟩ (by decide) (by decide) (show Int.tmod 1 3 = 1 from by decide)) ?_
  refine pe_go (pc := 282) rfl (s_iald (n := 3) (f := row3 (p0 : Int) (p1 : Int) (p2 : Int)) (v := (p1 : Int)) he (k := 1) (by omega) (by omega) (by decide) rfl) ?_
  refine pe_go (pc := 283) rfl (s_iald (n := 40) (f := G p0) (v := 0) hrx (k := p1) (by omega) (by omega) (by decide) h0) ?_
  refine pe_go rfl (s_if_eq_t ⟨by decide, by decide⟩ (by decide)) ?_
  refine pe_go (pc := 289) rfl (s_aload rfl) ?_
  refine pe_go (pc := 291) rfl (s_aload rfl) ?_
  refine pe_go (pc := 293) rfl (s_iload rfl) ?_
  refine pe_go (pc := 295) rfl (s_iald (n := 3) (f := row3 (p0 : Int) (p1 : Int) (p2 : Int)) (v := (p0 : Int)) he (k := 0) (by omega) (by omega) (by decide) rfl) ?_
  refine pe_go (pc := 296) rfl (s_aald hT9.1 (k := p0) (by omega) (by omega) efx) ?_
  refine pe_go (pc := 297) rfl (s_aload rfl) ?_
  refine pe_go (pc := 299) rfl (s_iload rfl) ?_
  refine pe_go (pc := 301) rfl (s_iconst (z := 1) rfl) ?_
  refine pe_go (q := (303, [(13, .int (iI 0)), (11, .ref e), (10, .int (iI (t : Int))), (9, .ref q), (8, .int (iI x8)), (7, .int (iI x7)), (6, .int (iI x6)), (5, .int (iI x5)), (4, .int (iI x4)), (3, .int (iI x3)), (2, .int (iI (T : Int))), (0, .ref b), (1, .ref a)], [.int (iI 1), .ref e, .ref (tr p0)], w)) rfl s_iadd ?_
  refine pe_go (pc := 303) rfl (s_iconst (z := 3) rfl) ?_
  refine pe_go (pc := 304) rfl (s_irem ⟨by decide, by decide⟩ ⟨by decide, by decide⟩ (by decide) (by decide) (show Int.tmod 1 3 = 1 from by decide)) ?_
  refine pe_go (pc := 305) rfl (s_iald (n := 3) (f := row3 (p0 : Int) (p1 : Int) (p2 : Int)) (v := (p1 : Int)) he (k := 1) (by omega) (by omega) (by decide) rfl) ?_
  refine pe_go (pc := 306) rfl (s_iload rfl) ?_
  refine pe_go (pc := 308) rfl (s_iconst (z := 1) rfl) ?_
  refine pe_go (pc := 309) rfl s_iadd ?_
  refine pe_go (pc := 310) rfl (s_iast (n := 40) (f := G p0) (w' := w.set (tr p0) (.inl (0, 40, .inl (fun j => iI ((uZ (G p0) p1 ((t : Int) + 1)) j))))) hrx (k := p1) (by omega) (by omega) (by decide) rfl) ?_
  refine pe_go (pc := 311) rfl (s_iinc (x := 0) (y := 1) rfl (by omega) (lv' := [(13, .int (iI 1)), (11, .ref e), (10, .int (iI (t : Int))), (9, .ref q), (8, .int (iI x8)), (7, .int (iI x7)), (6, .int (iI x6)), (5, .int (iI x5)), (4, .int (iI x4)), (3, .int (iI x3)), (2, .int (iI (T : Int))), (0, .ref b), (1, .ref a)]) rfl) ?_
  refine pe_go (pc := 314) rfl s_goto ?_
  refine pe_few (lv := [(13, .int (iI 1)), (11, .ref e), (10, .int (iI (t : Int))), (9, .ref q), (8, .int (iI x8)), (7, .int (iI x7)), (6, .int (iI x6)), (5, .int (iI x5)), (4, .int (iI x4)), (3, .int (iI x3)), (2, .int (iI (T : Int))), (0, .ref b), (1, .ref a)]) rfl rfl (by intro q hq; simp only [List.mem_cons, List.not_mem_nil, or_false] at hq; rcases hq with rfl | rfl | rfl | rfl | rfl | rfl | rfl | rfl | rfl | rfl | rfl | rfl | rfl <;> rfl) ?_
  exact KK
theorem l_left1 {w : pW} {a b q e t T p0 p1 p2 : Nat} (he : rowI w e 3 (row3 (p0 : Int) (p1 : Int) (p2 : Int))) {tf : Nat → Option Nat} {tr : Nat → Nat} {G : Nat → Nat → Int} (hT9 : tabAt w q tf tr G) (hx : p1 < 40) (hy : p2 < 40) (h0 : G p1 p2 = 0) {x3 x4 x5 x6 x7 x8 : Int} {Φ : Option Value → pW → Prop} (KK : qE 151 (260, [(13, .int (iI 2)), (11, .ref e), (10, .int (iI (t : Int))), (9, .ref q), (8, .int (iI x8)), (7, .int (iI x7)), (6, .int (iI x6)), (5, .int (iI x5)), (4, .int (iI x4)), (3, .int (iI x3)), (2, .int (iI (T : Int))), (0, .ref b), (1, .ref a)], [], w.set (tr p1) (.inl (0, 40, .inl (fun j => iI (uZ (G p1) p2 ((t : Int) + 1) j))))) Φ) : qE 151 (260, [(13, .int (iI 1)), (11, .ref e), (10, .int (iI (t : Int))), (9, .ref q), (8, .int (iI x8)), (7, .int (iI x7)), (6, .int (iI x6)), (5, .int (iI x5)), (4, .int (iI x4)), (3, .int (iI x3)), (2, .int (iI (T : Int))), (0, .ref b), (1, .ref a)], [], w) Φ := by
  obtain ⟨efx, hrx⟩ := hT9.2 p1 hx
  refine pe_go (pc := 260) rfl (s_iload rfl) ?_
  refine pe_go (pc := 262) rfl (s_iconst (z := 3) rfl) ?_
  refine pe_go rfl (s_icmp_ge_f ⟨by decide, by decide⟩ ⟨by decide, by decide⟩ (by decide)) ?_
  refine pe_go (pc := 266) rfl (s_aload rfl) ?_
  refine pe_go (pc := 268) rfl (s_aload rfl) ?_
  refine pe_go (pc := 270) rfl (s_iload rfl) ?_
  refine pe_go (pc := 272) rfl (s_iald (n := 3) (f := row3 (p0 : Int) (p1 : Int) (p2 : Int)) (v := (p1 : Int)) he (k := 1) (by omega) (by omega) (by decide) rfl) ?_
  refine pe_go (pc := 273) rfl (s_aald hT9.1 (k := p1) (by omega) (by omega) efx) ?_
  refine pe_go (pc := 274) rfl (s_aload rfl) ?_
  refine pe_go (pc := 276) rfl (s_iload rfl) ?_
  refine pe_go (pc := 278) rfl (s_iconst (z := 1) rfl) ?_
  refine pe_go (q := (280, [(13, .int (iI 1)), (11, .ref e), (10, .int (iI (t : Int))), (9, .ref q), (8, .int (iI x8)), (7, .int (iI x7)), (6, .int (iI x6)), (5, .int (iI x5)), (4, .int (iI x4)), (3, .int (iI x3)), (2, .int (iI (T : Int))), (0, .ref b), (1, .ref a)], [.int (iI 2), .ref e, .ref (tr p1)], w)) rfl s_iadd ?_
  refine pe_go (pc := 280) rfl (s_iconst (z := 3) rfl) ?_
  refine pe_go (pc := 281) rfl (s_irem ⟨by decide, by decide⟩ ⟨by decide, by decide⟩ (by decide) (by decide) (show Int.tmod 2 3 = 2 from by decide)) ?_
  refine pe_go (pc := 282) rfl (s_iald (n := 3) (f := row3 (p0 : Int) (p1 : Int) (p2 : Int)) (v := (p2 : Int)) he (k := 2) (by omega) (by omega) (by decide) rfl) ?_
  refine pe_go (pc := 283) rfl (s_iald (n := 40) (f := G p1) (v := 0) hrx (k := p2) (by omega) (by omega) (by decide) h0) ?_
  refine pe_go rfl (s_if_eq_t ⟨by decide, by decide⟩ (by decide)) ?_
  refine pe_go (pc := 289) rfl (s_aload rfl) ?_
  refine pe_go (pc := 291) rfl (s_aload rfl) ?_
  refine pe_go (pc := 293) rfl (s_iload rfl) ?_
  refine pe_go (pc := 295) rfl (s_iald (n := 3) (f := row3 (p0 : Int) (p1 : Int) (p2 : Int)) (v := (p1 : Int)) he (k := 1) (by omega) (by omega) (by decide) rfl) ?_
  refine pe_go (pc := 296) rfl (s_aald hT9.1 (k := p1) (by omega) (by omega) efx) ?_
  refine pe_go (pc := 297) rfl (s_aload rfl) ?_
  refine pe_go (pc := 299) rfl (s_iload rfl) ?_
  refine pe_go (pc := 301) rfl (s_iconst (z := 1) rfl) ?_
  refine pe_go (q := (303, [(13, .int (iI 1)), (11, .ref e), (10, .int (iI (t : Int))), (9, .ref q), (8, .int (iI x8)), (7, .int (iI x7)), (6, .int (iI x6)), (5, .int (iI x5)), (4, .int (iI x4)), (3, .int (iI x3)), (2, .int (iI (T : Int))), (0, .ref b), (1, .ref a)], [.int (iI 2), .ref e, .ref (tr p1)], w)) rfl s_iadd ?_
  refine pe_go (pc := 303) rfl (s_iconst (z := 3) rfl) ?_
  refine pe_go (pc := 304) rfl (s_irem ⟨by decide, by decide⟩ ⟨by decide, by decide⟩ (by decide) (by decide) (show Int.tmod 2 3 = 2 from by decide)) ?_
  refine pe_go (pc := 305) rfl (s_iald (n := 3) (f := row3 (p0 : Int) (p1 : Int) (p2 : Int)) (v := (p2 : Int)) he (k := 2) (by omega) (by omega) (by decide) rfl) ?_
  refine pe_go (pc := 306) rfl (s_iload rfl) ?_
  refine pe_go (pc := 308) rfl (s_iconst (z := 1) rfl) ?_
  refine pe_go (pc := 309) rfl s_iadd ?_
  refine pe_go (pc := 310) rfl (s_iast (n := 40) (f := G p1) (w' := w.set (tr p1) (.inl (0, 40, .inl (fun j => iI ((uZ (G p1) p2 ((t : Int) + 1)) j))))) hrx (k := p2) (by omega) (by omega) (by decide) rfl) ?_
  refine pe_go (pc := 311) rfl (s_iinc (x := 1) (y := 2) rfl (by omega) (lv' := [(13, .int (iI 2)), (11, .ref e), (10, .int (iI (t : Int))), (9, .ref q), (8, .int (iI x8)), (7, .int (iI x7)), (6, .int (iI x6)), (5, .int (iI x5)), (4, .int (iI x4)), (3, .int (iI x3)), (2, .int (iI (T : Int))), (0, .ref b), (1, .ref a)]) rfl) ?_
  refine pe_go (pc := 314) rfl s_goto ?_
  refine pe_few (lv := [(13, .int (iI 2)), (11, .ref e), (10, .int (iI (t : Int))), (9, .ref q), (8, .int (iI x8)), (7, .int (iI x7)), (6, .int (iI x6)), (5, .int (iI x5)), (4, .int (iI x4)), (3, .int (iI x3)), (2, .int (iI (T : Int))), (0, .ref b), (1, .ref a)]) rfl rfl (by intro q hq; simp only [List.mem_cons, List.not_mem_nil, or_false] at hq; rcases hq with rfl | rfl | rfl | rfl | rfl | rfl | rfl | rfl | rfl | rfl | rfl | rfl | rfl <;> rfl) ?_
  exact KK
theorem l_left2 {w : pW} {a b q e t T p0 p1 p2 : Nat} (he : rowI w e 3 (row3 (p0 : Int) (p1 : Int) (p2 : Int))) {tf : Nat → Option Nat} {tr : Nat → Nat} {G : Nat → Nat → Int} (hT9 : tabAt w q tf tr G) (hx : p2 < 40) (hy : p0 < 40) (h0 : G p2 p0 = 0) {x3 x4 x5 x6 x7 x8 : Int} {Φ : Option Value → pW → Prop} (KK : qE 151 (260, [(13, .int (iI 3)), (11, .ref e), (10, .int (iI (t : Int))), (9, .ref q), (8, .int (iI x8)), (7, .int (iI x7)), (6, .int (iI x6)), (5, .int (iI x5)), (4, .int (iI x4)), (3, .int (iI x3)), (2, .int (iI (T : Int))), (0, .ref b), (1, .ref a)], [], w.set (tr p2) (.inl (0, 40, .inl (fun j => iI (uZ (G p2) p0 ((t : Int) + 1) j))))) Φ) : qE 151 (260, [(13, .int (iI 2)), (11, .ref e), (10, .int (iI (t : Int))), (9, .ref q), (8, .int (iI x8)), (7, .int (iI x7)), (6, .int (iI x6)), (5, .int (iI x5)), (4, .int (iI x4)), (3, .int (iI x3)), (2, .int (iI (T : Int))), (0, .ref b), (1, .ref a)], [], w) Φ := by
  obtain ⟨efx, hrx⟩ := hT9.2 p2 hx
  refine pe_go (pc := 260) rfl (s_iload rfl) ?_
  refine pe_go (pc := 262) rfl (s_iconst (z := 3) rfl) ?_
  refine pe_go rfl (s_icmp_ge_f ⟨by decide, by decide⟩ ⟨by decide, by decide⟩ (by decide)) ?_
  refine pe_go (pc := 266) rfl (s_aload rfl) ?_
  refine pe_go (pc := 268) rfl (s_aload rfl) ?_
  refine pe_go (pc := 270) rfl (s_iload rfl) ?_
  refine pe_go (pc := 272) rfl (s_iald (n := 3) (f := row3 (p0 : Int) (p1 : Int) (p2 : Int)) (v := (p2 : Int)) he (k := 2) (by omega) (by omega) (by decide) rfl) ?_
  refine pe_go (pc := 273) rfl (s_aald hT9.1 (k := p2) (by omega) (by omega) efx) ?_
  refine pe_go (pc := 274) rfl (s_aload rfl) ?_
  refine pe_go (pc := 276) rfl (s_iload rfl) ?_
  refine pe_go (pc := 278) rfl (s_iconst (z := 1) rfl) ?_
  refine pe_go (q := (280, [(13, .int (iI 2)), (11, .ref e), (10, .int (iI (t : Int))), (9, .ref q), (8, .int (iI x8)), (7, .int (iI x7)), (6, .int (iI x6)), (5, .int (iI x5)), (4, .int (iI x4)), (3, .int (iI x3)), (2, .int (iI (T : Int))), (0, .ref b), (1, .ref a)], [.int (iI 3), .ref e, .ref (tr p2)], w)) rfl s_iadd ?_
  refine pe_go (pc := 280) rfl (s_iconst (z := 3) rfl) ?_
  refine pe_go (pc := 281) rfl (s_irem ⟨by decide, by decide⟩ ⟨by decide, by decide⟩ (by decide) (by decide) (show Int.tmod 3 3 = 0 from by decide)) ?_
  refine pe_go (pc := 282) rfl (s_iald (n := 3) (f := row3 (p0 : Int) (p1 : Int) (p2 : Int)) (v := (p0 : Int)) he (k := 0) (by omega) (by omega) (by decide) rfl) ?_
  refine pe_go (pc := 283) rfl (s_iald (n := 40) (f := G p2) (v := 0) hrx (k := p0) (by omega) (by omega) (by decide) h0) ?_
  refine pe_go rfl (s_if_eq_t ⟨by decide, by decide⟩ (by decide)) ?_
  refine pe_go (pc := 289) rfl (s_aload rfl) ?_
  refine pe_go (pc := 291) rfl (s_aload rfl) ?_
  refine pe_go (pc := 293) rfl (s_iload rfl) ?_
  refine pe_go (pc := 295) rfl (s_iald (n := 3) (f := row3 (p0 : Int) (p1 : Int) (p2 : Int)) (v := (p2 : Int)) he (k := 2) (by omega) (by omega) (by decide) rfl) ?_
  refine pe_go (pc := 296) rfl (s_aald hT9.1 (k := p2) (by omega) (by omega) efx) ?_
  refine pe_go (pc := 297) rfl (s_aload rfl) ?_
  refine pe_go (pc := 299) rfl (s_iload rfl) ?_
  refine pe_go (pc := 301) rfl (s_iconst (z := 1) rfl) ?_
  refine pe_go (q := (303, [(13, .int (iI 2)), (11, .ref e), (10, .int (iI (t : Int))), (9, .ref q), (8, .int (iI x8)), (7, .int (iI x7)), (6, .int (iI x6)), (5, .int (iI x5)), (4, .int (iI x4)), (3, .int (iI x3)), (2, .int (iI (T : Int))), (0, .ref b), (1, .ref a)], [.int (iI 3), .ref e, .ref (tr p2)], w)) rfl s_iadd ?_
  refine pe_go (pc := 303) rfl (s_iconst (z := 3) rfl) ?_
  refine pe_go (pc := 304) rfl (s_irem ⟨by decide, by decide⟩ ⟨by decide, by decide⟩ (by decide) (by decide) (show Int.tmod 3 3 = 0 from by decide)) ?_
  refine pe_go (pc := 305) rfl (s_iald (n := 3) (f := row3 (p0 : Int) (p1 : Int) (p2 : Int)) (v := (p0 : Int)) he (k := 0) (by omega) (by omega) (by decide) rfl) ?_
  refine pe_go (pc := 306) rfl (s_iload rfl) ?_
  refine pe_go (pc := 308) rfl (s_iconst (z := 1) rfl) ?_
  refine pe_go (pc := 309) rfl s_iadd ?_
  refine pe_go (pc := 310) rfl (s_iast (n := 40) (f := G p2) (w' := w.set (tr p2) (.inl (0, 40, .inl (fun j => iI ((uZ (G p2) p0 ((t : Int) + 1)) j))))) hrx (k := p0) (by omega) (by omega) (by decide) rfl) ?_
  refine pe_go (pc := 311) rfl (s_iinc (x := 2) (y := 3) rfl (by omega) (lv' := [(13, .int (iI 3)), (11, .ref e), (10, .int (iI (t : Int))), (9, .ref q), (8, .int (iI x8)), (7, .int (iI x7)), (6, .int (iI x6)), (5, .int (iI x5)), (4, .int (iI x4)), (3, .int (iI x3)), (2, .int (iI (T : Int))), (0, .ref b), (1, .ref a)]) rfl) ?_
  refine pe_go (pc := 314) rfl s_goto ?_
  refine pe_few (lv := [(13, .int (iI 3)), (11, .ref e), (10, .int (iI (t : Int))), (9, .ref q), (8, .int (iI x8)), (7, .int (iI x7)), (6, .int (iI x6)), (5, .int (iI x5)), (4, .int (iI x4)), (3, .int (iI x3)), (2, .int (iI (T : Int))), (0, .ref b), (1, .ref a)]) rfl rfl (by intro q hq; simp only [List.mem_cons, List.not_mem_nil, or_false] at hq; rcases hq with rfl | rfl | rfl | rfl | rfl | rfl | rfl | rfl | rfl | rfl | rfl | rfl | rfl <;> rfl) ?_
  exact KK
theorem l_alone {w : pW} {pre post : pW} {b : Nat} (hb : pre.length = b) {S : St} {L M : List St} {K : St} (hO : OB pre post b S L M K w) {O Q : Nat → Prop} {a : Nat} {X : Sh} {pa fa ha : Nat} {pf gf hf : Nat → Option Nat} {ff : Nat → Nat} (hS : shP w O Q a X pa fa ha pf gf hf ff) (hR : Rel S X) {T : Nat} (hT : S.tn = (T : Int)) (hT2 : T ≤ 74) {t p0 p1 p2 e : Nat} (ht : t < T) (k3 : S.tri3 t p0 p1 p2) (he : rowI w e 3 (row3 (p0 : Int) (p1 : Int) (p2 : Int))) {q : Nat} {x3 x4 x5 x6 x7 x8 : Int} {Φ : Option Value → pW → Prop} (KK : qE 151 (458, [(11, .ref e), (10, .int (iI (t : Int))), (9, .ref q), (8, .int (iI x8)), (7, .int (iI x7)), (6, .int (iI x6)), (5, .int (iI x5)), (4, .int (iI x4)), (3, .int (iI x3)), (2, .int (iI (T : Int))), (0, .ref b), (1, .ref a)], [], w) Φ) : ∀ (d j : Nat), j + d = 40 → qE 151 (320, [(13, .int (iI (j : Int))), (11, .ref e), (10, .int (iI (t : Int))), (9, .ref q), (8, .int (iI x8)), (7, .int (iI x7)), (6, .int (iI x6)), (5, .int (iI x5)), (4, .int (iI x4)), (3, .int (iI x3)), (2, .int (iI (T : Int))), (0, .ref b), (1, .ref a)], [], w) Φ := by
  obtain ⟨hb9, h0, h1, h2, h3, h4, h5, h6, h7, h8, h9⟩ := hS
  have k9 := k3
  obtain ⟨⟨hp0, hp1, hp2⟩, ⟨o1, o2⟩, ⟨hc0, hc1, hc2⟩, ⟨s0, s1, s2⟩, hpos, -, -, -⟩ := k9
  obtain ⟨r0, er0, -, hr0⟩ := h3 p0 _ _ _ hp0 (hR.pt hp0 s0)
  obtain ⟨r1, er1, -, hr1⟩ := h3 p1 _ _ _ hp1 (hR.pt hp1 s1)
  obtain ⟨r2, er2, -, hr2⟩ := h3 p2 _ _ _ hp2 (hR.pt hp2 s2)
  have sB := (hO.1.sdb hp0 hp1 hp2).2
  intro d
  induction d with
  | zero =>
    intro j hj9
    have ej : j = 40 := by omega
    subst ej
    refine pe_go (pc := 320) rfl (s_iload rfl) ?_
    refine pe_go (pc := 322) rfl (s_bipush (z := 40) rfl) ?_
    refine pe_go rfl (s_icmp_ge_t ⟨by omega, by omega⟩ ⟨by decide, by decide⟩ (by omega)) ?_
    refine pe_few (lv := [(11, .ref e), (10, .int (iI (t : Int))), (9, .ref q), (8, .int (iI x8)), (7, .int (iI x7)), (6, .int (iI x6)), (5, .int (iI x5)), (4, .int (iI x4)), (3, .int (iI x3)), (2, .int (iI (T : Int))), (0, .ref b), (1, .ref a)]) rfl rfl (by intro q hq; simp only [List.mem_cons, List.not_mem_nil, or_false] at hq; rcases hq with rfl | rfl | rfl | rfl | rfl | rfl | rfl | rfl | rfl | rfl | rfl | rfl <;> rfl) ?_
    exact KK
  | succ d ih =>
    intro j hj9
    have hj : j < 40 := by omega
    by_cases sj : S.has j
    · obtain ⟨rj, erj, -, hrj⟩ := h3 j _ _ _ hj (hR.pt hj sj)
      have bj0 := hO.1.sdb hp0 hp1 hj
      have bj1 := hO.1.sdb hp1 hp2 hj
      have bj2 := hO.1.sdb hp2 hp0 hj
      refine pe_go (pc := 320) rfl (s_iload rfl) ?_
      refine pe_go (pc := 322) rfl (s_bipush (z := 40) rfl) ?_
      refine pe_go rfl (s_icmp_ge_f ⟨by omega, by omega⟩ ⟨by decide, by decide⟩ (by omega)) ?_
      refine pe_go (pc := 327) rfl (s_aload_n rfl) ?_
      refine pe_go (pc := 328) rfl (s_getf (v := .ref pa) h0 rfl) ?_
      refine pe_go (pc := 331) rfl (s_iload rfl) ?_
      refine pe_go (pc := 333) rfl (s_aald h1 (k := j) (by omega) (by omega) erj) ?_
      refine pe_go (pc := 334) rfl s_ifnull_f ?_
      refine pe_go (pc := 337) rfl (s_iload rfl) ?_
      refine pe_go (pc := 339) rfl (s_aload rfl) ?_
      refine pe_go (pc := 341) rfl (s_iconst (z := 0) rfl) ?_
      refine pe_go (pc := 342) rfl (s_iald (n := 3) (f := row3 (p0 : Int) (p1 : Int) (p2 : Int)) (v := (p0 : Int)) he (k := 0) (by omega) (by omega) (by decide) rfl) ?_
      by_cases c1 : (j : Int) = (p0 : Int)
      · skip
        refine pe_go rfl (s_icmp_eq_t ⟨by omega, by omega⟩ ⟨by omega, by omega⟩ c1) ?_
        refine pe_go (pc := 452) rfl (s_iinc (x := (j : Int)) (y := ((j + 1 : Nat) : Int)) rfl (by omega) (lv' := [(13, .int (iI ((j + 1 : Nat) : Int))), (11, .ref e), (10, .int (iI (t : Int))), (9, .ref q), (8, .int (iI x8)), (7, .int (iI x7)), (6, .int (iI x6)), (5, .int (iI x5)), (4, .int (iI x4)), (3, .int (iI x3)), (2, .int (iI (T : Int))), (0, .ref b), (1, .ref a)]) rfl) ?_
        refine pe_go (pc := 455) rfl s_goto ?_
        refine pe_few (lv := [(13, .int (iI ((j + 1 : Nat) : Int))), (11, .ref e), (10, .int (iI (t : Int))), (9, .ref q), (8, .int (iI x8)), (7, .int (iI x7)), (6, .int (iI x6)), (5, .int (iI x5)), (4, .int (iI x4)), (3, .int (iI x3)), (2, .int (iI (T : Int))), (0, .ref b), (1, .ref a)]) rfl rfl (by intro q hq; simp only [List.mem_cons, List.not_mem_nil, or_false] at hq; rcases hq with rfl | rfl | rfl | rfl | rfl | rfl | rfl | rfl | rfl | rfl | rfl | rfl | rfl <;> rfl) ?_
        exact ih (j + 1) (by omega)
      · skip
        refine pe_go rfl (s_icmp_eq_f ⟨by omega, by omega⟩ ⟨by omega, by omega⟩ c1) ?_
        refine pe_go (pc := 346) rfl (s_iload rfl) ?_
        refine pe_go (pc := 348) rfl (s_aload rfl) ?_
        refine pe_go (pc := 350) rfl (s_iconst (z := 1) rfl) ?_
        refine pe_go (pc := 351) rfl (s_iald (n := 3) (f := row3 (p0 : Int) (p1 : Int) (p2 : Int)) (v := (p1 : Int)) he (k := 1) (by omega) (by omega) (by decide) rfl) ?_
        by_cases c2 : (j : Int) = (p1 : Int)
        · skip
          refine pe_go rfl (s_icmp_eq_t ⟨by omega, by omega⟩ ⟨by omega, by omega⟩ c2) ?_
          refine pe_go (pc := 452) rfl (s_iinc (x := (j : Int)) (y := ((j + 1 : Nat) : Int)) rfl (by omega) (lv' := [(13, .int (iI ((j + 1 : Nat) : Int))), (11, .ref e), (10, .int (iI (t : Int))), (9, .ref q), (8, .int (iI x8)), (7, .int (iI x7)), (6, .int (iI x6)), (5, .int (iI x5)), (4, .int (iI x4)), (3, .int (iI x3)), (2, .int (iI (T : Int))), (0, .ref b), (1, .ref a)]) rfl) ?_
          refine pe_go (pc := 455) rfl s_goto ?_
          refine pe_few (lv := [(13, .int (iI ((j + 1 : Nat) : Int))), (11, .ref e), (10, .int (iI (t : Int))), (9, .ref q), (8, .int (iI x8)), (7, .int (iI x7)), (6, .int (iI x6)), (5, .int (iI x5)), (4, .int (iI x4)), (3, .int (iI x3)), (2, .int (iI (T : Int))), (0, .ref b), (1, .ref a)]) rfl rfl (by intro q hq; simp only [List.mem_cons, List.not_mem_nil, or_false] at hq; rcases hq with rfl | rfl | rfl | rfl | rfl | rfl | rfl | rfl | rfl | rfl | rfl | rfl | rfl <;> rfl) ?_
          exact ih (j + 1) (by omega)
        · skip
          refine pe_go rfl (s_icmp_eq_f ⟨by omega, by omega⟩ ⟨by omega, by omega⟩ c2) ?_
          refine pe_go (pc := 355) rfl (s_iload rfl) ?_
          refine pe_go (pc := 357) rfl (s_aload rfl) ?_
          refine pe_go (pc := 359) rfl (s_iconst (z := 2) rfl) ?_
          refine pe_go (pc := 360) rfl (s_iald (n := 3) (f := row3 (p0 : Int) (p1 : Int) (p2 : Int)) (v := (p2 : Int)) he (k := 2) (by omega) (by omega) (by decide) rfl) ?_
          by_cases c3 : (j : Int) = (p2 : Int)
          · skip
            refine pe_go rfl (s_icmp_ne_f ⟨by omega, by omega⟩ ⟨by omega, by omega⟩ (fun e => e c3)) ?_
            refine pe_go (pc := 364) rfl s_goto ?_
            refine pe_go (pc := 452) rfl (s_iinc (x := (j : Int)) (y := ((j + 1 : Nat) : Int)) rfl (by omega) (lv' := [(13, .int (iI ((j + 1 : Nat) : Int))), (11, .ref e), (10, .int (iI (t : Int))), (9, .ref q), (8, .int (iI x8)), (7, .int (iI x7)), (6, .int (iI x6)), (5, .int (iI x5)), (4, .int (iI x4)), (3, .int (iI x3)), (2, .int (iI (T : Int))), (0, .ref b), (1, .ref a)]) rfl) ?_
            refine pe_go (pc := 455) rfl s_goto ?_
            refine pe_few (lv := [(13, .int (iI ((j + 1 : Nat) : Int))), (11, .ref e), (10, .int (iI (t : Int))), (9, .ref q), (8, .int (iI x8)), (7, .int (iI x7)), (6, .int (iI x6)), (5, .int (iI x5)), (4, .int (iI x4)), (3, .int (iI x3)), (2, .int (iI (T : Int))), (0, .ref b), (1, .ref a)]) rfl rfl (by intro q hq; simp only [List.mem_cons, List.not_mem_nil, or_false] at hq; rcases hq with rfl | rfl | rfl | rfl | rfl | rfl | rfl | rfl | rfl | rfl | rfl | rfl | rfl <;> rfl) ?_
            exact ih (j + 1) (by omega)
          · skip
            refine pe_go rfl (s_icmp_ne_t ⟨by omega, by omega⟩ ⟨by omega, by omega⟩ c3) ?_
            refine pe_go (pc := 367) rfl (s_iconst (z := 1) rfl) ?_
            refine pe_go (pc := 368) rfl (s_istore (lv' := [(14, .int (iI 1)), (13, .int (iI (j : Int))), (11, .ref e), (10, .int (iI (t : Int))), (9, .ref q), (8, .int (iI x8)), (7, .int (iI x7)), (6, .int (iI x6)), (5, .int (iI x5)), (4, .int (iI x4)), (3, .int (iI x3)), (2, .int (iI (T : Int))), (0, .ref b), (1, .ref a)]) rfl) ?_
            refine pe_go (pc := 370) rfl (s_iconst (z := 0) rfl) ?_
            refine pe_go (pc := 371) rfl (s_istore (lv' := [(15, .int (iI 0)), (14, .int (iI 1)), (13, .int (iI (j : Int))), (11, .ref e), (10, .int (iI (t : Int))), (9, .ref q), (8, .int (iI x8)), (7, .int (iI x7)), (6, .int (iI x6)), (5, .int (iI x5)), (4, .int (iI x4)), (3, .int (iI x3)), (2, .int (iI (T : Int))), (0, .ref b), (1, .ref a)]) rfl) ?_
            refine pe_go (pc := 373) rfl (s_iload rfl) ?_
            refine pe_go (pc := 375) rfl (s_iconst (z := 3) rfl) ?_
            refine pe_go rfl (s_icmp_ge_f ⟨by decide, by decide⟩ ⟨by decide, by decide⟩ (by decide)) ?_
            refine pe_go (pc := 379) rfl (s_iload rfl) ?_
            refine pe_go rfl (s_if_eq_f ⟨by decide, by decide⟩ (by decide)) ?_
            refine pe_go (pc := 384) rfl (s_aload_n rfl) ?_
            refine pe_go (pc := 385) rfl (s_getf (v := .ref pa) h0 rfl) ?_
            refine pe_go (pc := 388) rfl (s_aload rfl) ?_
            refine pe_go (pc := 390) rfl (s_iload rfl) ?_
            refine pe_go (pc := 392) rfl (s_iald (n := 3) (f := row3 (p0 : Int) (p1 : Int) (p2 : Int)) (v := (p0 : Int)) he (k := 0) (by omega) (by omega) (by decide) rfl) ?_
            refine pe_go (pc := 393) rfl (s_aald h1 (k := p0) (by omega) (by omega) er0) ?_
            refine pe_go (pc := 394) rfl (s_aload_n rfl) ?_
            refine pe_go (pc := 395) rfl (s_getf (v := .ref pa) h0 rfl) ?_
            refine pe_go (pc := 398) rfl (s_aload rfl) ?_
            refine pe_go (pc := 400) rfl (s_iload rfl) ?_
            refine pe_go (pc := 402) rfl (s_iconst (z := 1) rfl) ?_
            refine pe_go (q := (404, [(15, .int (iI 0)), (14, .int (iI 1)), (13, .int (iI (j : Int))), (11, .ref e), (10, .int (iI (t : Int))), (9, .ref q), (8, .int (iI x8)), (7, .int (iI x7)), (6, .int (iI x6)), (5, .int (iI x5)), (4, .int (iI x4)), (3, .int (iI x3)), (2, .int (iI (T : Int))), (0, .ref b), (1, .ref a)], [.int (iI 1), .ref e, .ref pa, .ref r0], w)) rfl s_iadd ?_
            refine pe_go (pc := 404) rfl (s_iconst (z := 3) rfl) ?_
            refine pe_go (pc := 405) rfl (s_irem ⟨by decide, by decide⟩ ⟨by decide, by decide⟩ (by decide) (by decide) (show Int.tmod 1 3 = 1 from by decide)) ?_
            refine pe_go (pc := 406) rfl (s_iald (n := 3) (f := row3 (p0 : Int) (p1 : Int) (p2 : Int)) (v := (p1 : Int)) he (k := 1) (by omega) (by omega) (by decide) rfl) ?_
            refine pe_go (pc := 407) rfl (s_aald h1 (k := p1) (by omega) (by omega) er1) ?_
            refine pe_go (pc := 408) rfl (s_aload_n rfl) ?_
            refine pe_go (pc := 409) rfl (s_getf (v := .ref pa) h0 rfl) ?_
            refine pe_go (pc := 412) rfl (s_iload rfl) ?_
            refine pe_go (pc := 414) rfl (s_aald h1 (k := j) (by omega) (by omega) erj) ?_
            refine pe_go (pc := 415) rfl (s_iconst (z := 0) rfl) ?_
            refine pe_go (pc := 416) rfl (s_iald (n := 3) (f := row3 (S.xs j) (S.ys j) (S.hs j)) (v := S.xs j) hrj (k := 0) (by omega) (by omega) (by decide) rfl) ?_
            refine pe_go (pc := 417) rfl (s_aload_n rfl) ?_
            refine pe_go (pc := 418) rfl (s_getf (v := .ref pa) h0 rfl) ?_
            refine pe_go (pc := 421) rfl (s_iload rfl) ?_
            refine pe_go (pc := 423) rfl (s_aald h1 (k := j) (by omega) (by omega) erj) ?_
            refine pe_go (pc := 424) rfl (s_iconst (z := 1) rfl) ?_
            refine pe_go (pc := 425) rfl (s_iald (n := 3) (f := row3 (S.xs j) (S.ys j) (S.hs j)) (v := S.ys j) hrj (k := 1) (by omega) (by omega) (by decide) rfl) ?_
            refine pe_call rfl (s_invS rfl rfl rfl) (show pRun 146 _ w (some (.int (iI (S.sd3 p0 p1 j)))) w from w_side hr0 hr1) ?_
            by_cases c4 : (S.sd3 p0 p1 j) < 0
            · skip
              refine pe_go rfl (s_if_lt_t ⟨by omega, by omega⟩ c4) ?_
              refine pe_go (pc := 436) rfl (s_iconst (z := 0) rfl) ?_
              refine pe_go (pc := 437) rfl (s_istore (lv' := [(14, .int (iI 0)), (15, .int (iI 0)), (13, .int (iI (j : Int))), (11, .ref e), (10, .int (iI (t : Int))), (9, .ref q), (8, .int (iI x8)), (7, .int (iI x7)), (6, .int (iI x6)), (5, .int (iI x5)), (4, .int (iI x4)), (3, .int (iI x3)), (2, .int (iI (T : Int))), (0, .ref b), (1, .ref a)]) rfl) ?_
              refine pe_go (pc := 439) rfl (s_iinc (x := 0) (y := 1) rfl (by omega) (lv' := [(15, .int (iI 1)), (14, .int (iI 0)), (13, .int (iI (j : Int))), (11, .ref e), (10, .int (iI (t : Int))), (9, .ref q), (8, .int (iI x8)), (7, .int (iI x7)), (6, .int (iI x6)), (5, .int (iI x5)), (4, .int (iI x4)), (3, .int (iI x3)), (2, .int (iI (T : Int))), (0, .ref b), (1, .ref a)]) rfl) ?_
              refine pe_go (pc := 442) rfl s_goto ?_
              refine pe_go (pc := 373) rfl (s_iload rfl) ?_
              refine pe_go (pc := 375) rfl (s_iconst (z := 3) rfl) ?_
              refine pe_go rfl (s_icmp_ge_f ⟨by decide, by decide⟩ ⟨by decide, by decide⟩ (by decide)) ?_
              refine pe_go (pc := 379) rfl (s_iload rfl) ?_
              refine pe_go rfl (s_if_eq_t ⟨by decide, by decide⟩ (by decide)) ?_
              refine pe_go (pc := 436) rfl (s_iconst (z := 0) rfl) ?_
              refine pe_go (pc := 437) rfl (s_istore (lv' := [(14, .int (iI 0)), (15, .int (iI 1)), (13, .int (iI (j : Int))), (11, .ref e), (10, .int (iI (t : Int))), (9, .ref q), (8, .int (iI x8)), (7, .int (iI x7)), (6, .int (iI x6)), (5, .int (iI x5)), (4, .int (iI x4)), (3, .int (iI x3)), (2, .int (iI (T : Int))), (0, .ref b), (1, .ref a)]) rfl) ?_
              refine pe_go (pc := 439) rfl (s_iinc (x := 1) (y := 2) rfl (by omega) (lv' := [(15, .int (iI 2)), (14, .int (iI 0)), (13, .int (iI (j : Int))), (11, .ref e), (10, .int (iI (t : Int))), (9, .ref q), (8, .int (iI x8)), (7, .int (iI x7)), (6, .int (iI x6)), (5, .int (iI x5)), (4, .int (iI x4)), (3, .int (iI x3)), (2, .int (iI (T : Int))), (0, .ref b), (1, .ref a)]) rfl) ?_
              refine pe_go (pc := 442) rfl s_goto ?_
              refine pe_go (pc := 373) rfl (s_iload rfl) ?_
              refine pe_go (pc := 375) rfl (s_iconst (z := 3) rfl) ?_
              refine pe_go rfl (s_icmp_ge_f ⟨by decide, by decide⟩ ⟨by decide, by decide⟩ (by decide)) ?_
              refine pe_go (pc := 379) rfl (s_iload rfl) ?_
              refine pe_go rfl (s_if_eq_t ⟨by decide, by decide⟩ (by decide)) ?_
              refine pe_go (pc := 436) rfl (s_iconst (z := 0) rfl) ?_
              refine pe_go (pc := 437) rfl (s_istore (lv' := [(14, .int (iI 0)), (15, .int (iI 2)), (13, .int (iI (j : Int))), (11, .ref e), (10, .int (iI (t : Int))), (9, .ref q), (8, .int (iI x8)), (7, .int (iI x7)), (6, .int (iI x6)), (5, .int (iI x5)), (4, .int (iI x4)), (3, .int (iI x3)), (2, .int (iI (T : Int))), (0, .ref b), (1, .ref a)]) rfl) ?_
              refine pe_go (pc := 439) rfl (s_iinc (x := 2) (y := 3) rfl (by omega) (lv' := [(15, .int (iI 3)), (14, .int (iI 0)), (13, .int (iI (j : Int))), (11, .ref e), (10, .int (iI (t : Int))), (9, .ref q), (8, .int (iI x8)), (7, .int (iI x7)), (6, .int (iI x6)), (5, .int (iI x5)), (4, .int (iI x4)), (3, .int (iI x3)), (2, .int (iI (T : Int))), (0, .ref b), (1, .ref a)]) rfl) ?_
              refine pe_go (pc := 442) rfl s_goto ?_
              refine pe_go (pc := 373) rfl (s_iload rfl) ?_
              refine pe_go (pc := 375) rfl (s_iconst (z := 3) rfl) ?_
              refine pe_go rfl (s_icmp_ge_t ⟨by decide, by decide⟩ ⟨by decide, by decide⟩ (by decide)) ?_
              refine pe_go (pc := 445) rfl (s_iload rfl) ?_
              refine pe_go rfl (s_if_eq_t ⟨by decide, by decide⟩ (by decide)) ?_
              refine pe_go (pc := 452) rfl (s_iinc (x := (j : Int)) (y := ((j + 1 : Nat) : Int)) rfl (by omega) (lv' := [(13, .int (iI ((j + 1 : Nat) : Int))), (15, .int (iI 3)), (14, .int (iI 0)), (11, .ref e), (10, .int (iI (t : Int))), (9, .ref q), (8, .int (iI x8)), (7, .int (iI x7)), (6, .int (iI x6)), (5, .int (iI x5)), (4, .int (iI x4)), (3, .int (iI x3)), (2, .int (iI (T : Int))), (0, .ref b), (1, .ref a)]) rfl) ?_
              refine pe_go (pc := 455) rfl s_goto ?_
              refine pe_few (lv := [(13, .int (iI ((j + 1 : Nat) : Int))), (11, .ref e), (10, .int (iI (t : Int))), (9, .ref q), (8, .int (iI x8)), (7, .int (iI x7)), (6, .int (iI x6)), (5, .int (iI x5)), (4, .int (iI x4)), (3, .int (iI x3)), (2, .int (iI (T : Int))), (0, .ref b), (1, .ref a)]) rfl rfl (by intro q hq; simp only [List.mem_cons, List.not_mem_nil, or_false] at hq; rcases hq with rfl | rfl | rfl | rfl | rfl | rfl | rfl | rfl | rfl | rfl | rfl | rfl | rfl <;> rfl) ?_
              exact ih (j + 1) (by omega)
            · skip
              refine pe_go rfl (s_if_lt_f ⟨by omega, by omega⟩ c4) ?_
              refine pe_go (pc := 432) rfl (s_iconst (z := 1) rfl) ?_
              refine pe_go (pc := 433) rfl s_goto ?_
              refine pe_go (pc := 437) rfl (s_istore (lv' := [(14, .int (iI 1)), (15, .int (iI 0)), (13, .int (iI (j : Int))), (11, .ref e), (10, .int (iI (t : Int))), (9, .ref q), (8, .int (iI x8)), (7, .int (iI x7)), (6, .int (iI x6)), (5, .int (iI x5)), (4, .int (iI x4)), (3, .int (iI x3)), (2, .int (iI (T : Int))), (0, .ref b), (1, .ref a)]) rfl) ?_
              refine pe_go (pc := 439) rfl (s_iinc (x := 0) (y := 1) rfl (by omega) (lv' := [(15, .int (iI 1)), (14, .int (iI 1)), (13, .int (iI (j : Int))), (11, .ref e), (10, .int (iI (t : Int))), (9, .ref q), (8, .int (iI x8)), (7, .int (iI x7)), (6, .int (iI x6)), (5, .int (iI x5)), (4, .int (iI x4)), (3, .int (iI x3)), (2, .int (iI (T : Int))), (0, .ref b), (1, .ref a)]) rfl) ?_
              refine pe_go (pc := 442) rfl s_goto ?_
              refine pe_go (pc := 373) rfl (s_iload rfl) ?_
              refine pe_go (pc := 375) rfl (s_iconst (z := 3) rfl) ?_
              refine pe_go rfl (s_icmp_ge_f ⟨by decide, by decide⟩ ⟨by decide, by decide⟩ (by decide)) ?_
              refine pe_go (pc := 379) rfl (s_iload rfl) ?_
              refine pe_go rfl (s_if_eq_f ⟨by decide, by decide⟩ (by decide)) ?_
              refine pe_go (pc := 384) rfl (s_aload_n rfl) ?_
              refine pe_go (pc := 385) rfl (s_getf (v := .ref pa) h0 rfl) ?_
              refine pe_go (pc := 388) rfl (s_aload rfl) ?_
              refine pe_go (pc := 390) rfl (s_iload rfl) ?_
              refine pe_go (pc := 392) rfl (s_iald (n := 3) (f := row3 (p0 : Int) (p1 : Int) (p2 : Int)) (v := (p1 : Int)) he (k := 1) (by omega) (by omega) (by decide) rfl) ?_
              refine pe_go (pc := 393) rfl (s_aald h1 (k := p1) (by omega) (by omega) er1) ?_
              refine pe_go (pc := 394) rfl (s_aload_n rfl) ?_
              refine pe_go (pc := 395) rfl (s_getf (v := .ref pa) h0 rfl) ?_
              refine pe_go (pc := 398) rfl (s_aload rfl) ?_
              refine pe_go (pc := 400) rfl (s_iload rfl) ?_
              refine pe_go (pc := 402) rfl (s_iconst (z := 1) rfl) ?_
              refine pe_go (q := (404, [(15, .int (iI 1)), (14, .int (iI 1)), (13, .int (iI (j : Int))), (11, .ref e), (10, .int (iI (t : Int))), (9, .ref q), (8, .int (iI x8)), (7, .int (iI x7)), (6, .int (iI x6)), (5, .int (iI x5)), (4, .int (iI x4)), (3, .int (iI x3)), (2, .int (iI (T : Int))), (0, .ref b), (1, .ref a)], [.int (iI 2), .ref e, .ref pa, .ref r1], w)) rfl s_iadd ?_
              refine pe_go (pc := 404) rfl (s_iconst (z := 3) rfl) ?_
              refine pe_go (pc := 405) rfl (s_irem ⟨by decide, by decide⟩ ⟨by decide, by decide⟩ (by decide) (by decide) (show Int.tmod 2 3 = 2 from by decide)) ?_
              refine pe_go (pc := 406) rfl (s_iald (n := 3) (f := row3 (p0 : Int) (p1 : Int) (p2 : Int)) (v := (p2 : Int)) he (k := 2) (by omega) (by omega) (by decide) rfl) ?_
              refine pe_go (pc := 407) rfl (s_aald h1 (k := p2) (by omega) (by omega) er2) ?_
              refine pe_go (pc := 408) rfl (s_aload_n rfl) ?_
              refine pe_go (pc := 409) rfl (s_getf (v := .ref pa) h0 rfl) ?_
              refine pe_go (pc := 412) rfl (s_iload rfl) ?_
              refine pe_go (pc := 414) rfl (s_aald h1 (k := j) (by omega) (by omega) erj) ?_
              refine pe_go (pc := 415) rfl (s_iconst (z := 0) rfl) ?_
              refine pe_go (pc := 416) rfl (s_iald (n := 3) (f := row3 (S.xs j) (S.ys j) (S.hs j)) (v := S.xs j) hrj (k := 0) (by omega) (by omega) (by decide) rfl) ?_
              refine pe_go (pc := 417) rfl (s_aload_n rfl) ?_
              refine pe_go (pc := 418) rfl (s_getf (v := .ref pa) h0 rfl) ?_
              refine pe_go (pc := 421) rfl (s_iload rfl) ?_
              refine pe_go (pc := 423) rfl (s_aald h1 (k := j) (by omega) (by omega) erj) ?_
              refine pe_go (pc := 424) rfl (s_iconst (z := 1) rfl) ?_
              refine pe_go (pc := 425) rfl (s_iald (n := 3) (f := row3 (S.xs j) (S.ys j) (S.hs j)) (v := S.ys j) hrj (k := 1) (by omega) (by omega) (by decide) rfl) ?_
              refine pe_call rfl (s_invS rfl rfl rfl) (show pRun 146 _ w (some (.int (iI (S.sd3 p1 p2 j)))) w from w_side hr1 hr2) ?_
              by_cases c5 : (S.sd3 p1 p2 j) < 0
              · skip
                refine pe_go rfl (s_if_lt_t ⟨by omega, by omega⟩ c5) ?_
                refine pe_go (pc := 436) rfl (s_iconst (z := 0) rfl) ?_
                refine pe_go (pc := 437) rfl (s_istore (lv' := [(14, .int (iI 0)), (15, .int (iI 1)), (13, .int (iI (j : Int))), (11, .ref e), (10, .int (iI (t : Int))), (9, .ref q), (8, .int (iI x8)), (7, .int (iI x7)), (6, .int (iI x6)), (5, .int (iI x5)), (4, .int (iI x4)), (3, .int (iI x3)), (2, .int (iI (T : Int))), (0, .ref b), (1, .ref a)]) rfl) ?_
                refine pe_go (pc := 439) rfl (s_iinc (x := 1) (y := 2) rfl (by omega) (lv' := [(15, .int (iI 2)), (14, .int (iI 0)), (13, .int (iI (j : Int))), (11, .ref e), (10, .int (iI (t : Int))), (9, .ref q), (8, .int (iI x8)), (7, .int (iI x7)), (6, .int (iI x6)), (5, .int (iI x5)), (4, .int (iI x4)), (3, .int (iI x3)), (2, .int (iI (T : Int))), (0, .ref b), (1, .ref a)]) rfl) ?_
                refine pe_go (pc := 442) rfl s_goto ?_
                refine pe_go (pc := 373) rfl (s_iload rfl) ?_
                refine pe_go (pc := 375) rfl (s_iconst (z := 3) rfl) ?_
                refine pe_go rfl (s_icmp_ge_f ⟨by decide, by decide⟩ ⟨by decide, by decide⟩ (by decide)) ?_
                refine pe_go (pc := 379) rfl (s_iload rfl) ?_
                refine pe_go rfl (s_if_eq_t ⟨by decide, by decide⟩ (by decide)) ?_
                refine pe_go (pc := 436) rfl (s_iconst (z := 0) rfl) ?_
                refine pe_go (pc := 437) rfl (s_istore (lv' := [(14, .int (iI 0)), (15, .int (iI 2)), (13, .int (iI (j : Int))), (11, .ref e), (10, .int (iI (t : Int))), (9, .ref q), (8, .int (iI x8)), (7, .int (iI x7)), (6, .int (iI x6)), (5, .int (iI x5)), (4, .int (iI x4)), (3, .int (iI x3)), (2, .int (iI (T : Int))), (0, .ref b), (1, .ref a)]) rfl) ?_
                refine pe_go (pc := 439) rfl (s_iinc (x := 2) (y := 3) rfl (by omega) (lv' := [(15, .int (iI 3)), (14, .int (iI 0)), (13, .int (iI (j : Int))), (11, .ref e), (10, .int (iI (t : Int))), (9, .ref q), (8, .int (iI x8)), (7, .int (iI x7)), (6, .int (iI x6)), (5, .int (iI x5)), (4, .int (iI x4)), (3, .int (iI x3)), (2, .int (iI (T : Int))), (0, .ref b), (1, .ref a)]) rfl) ?_
                refine pe_go (pc := 442) rfl s_goto ?_
                refine pe_go (pc := 373) rfl (s_iload rfl) ?_
                refine pe_go (pc := 375) rfl (s_iconst (z := 3) rfl) ?_
                refine pe_go rfl (s_icmp_ge_t ⟨by decide, by decide⟩ ⟨by decide, by decide⟩ (by decide)) ?_
                refine pe_go (pc := 445) rfl (s_iload rfl) ?_
                refine pe_go rfl (s_if_eq_t ⟨by decide, by decide⟩ (by decide)) ?_
                refine pe_go (pc := 452) rfl (s_iinc (x := (j : Int)) (y := ((j + 1 : Nat) : Int)) rfl (by omega) (lv' := [(13, .int (iI ((j + 1 : Nat) : Int))), (15, .int (iI 3)), (14, .int (iI 0)), (11, .ref e), (10, .int (iI (t : Int))), (9, .ref q), (8, .int (iI x8)), (7, .int (iI x7)), (6, .int (iI x6)), (5, .int (iI x5)), (4, .int (iI x4)), (3, .int (iI x3)), (2, .int (iI (T : Int))), (0, .ref b), (1, .ref a)]) rfl) ?_
                refine pe_go (pc := 455) rfl s_goto ?_
                refine pe_few (lv := [(13, .int (iI ((j + 1 : Nat) : Int))), (11, .ref e), (10, .int (iI (t : Int))), (9, .ref q), (8, .int (iI x8)), (7, .int (iI x7)), (6, .int (iI x6)), (5, .int (iI x5)), (4, .int (iI x4)), (3, .int (iI x3)), (2, .int (iI (T : Int))), (0, .ref b), (1, .ref a)]) rfl rfl (by intro q hq; simp only [List.mem_cons, List.not_mem_nil, or_false] at hq; rcases hq with rfl | rfl | rfl | rfl | rfl | rfl | rfl | rfl | rfl | rfl | rfl | rfl | rfl <;> rfl) ?_
                exact ih (j + 1) (by omega)
              · skip
                refine pe_go rfl (s_if_lt_f ⟨by omega, by omega⟩ c5) ?_
                refine pe_go (pc := 432) rfl (s_iconst (z := 1) rfl) ?_
                refine pe_go (pc := 433) rfl s_goto ?_
                refine pe_go (pc := 437) rfl (s_istore (lv' := [(14, .int (iI 1)), (15, .int (iI 1)), (13, .int (iI (j : Int))), (11, .ref e), (10, .int (iI (t : Int))), (9, .ref q), (8, .int (iI x8)), (7, .int (iI x7)), (6, .int (iI x6)), (5, .int (iI x5)), (4, .int (iI x4)), (3, .int (iI x3)), (2, .int (iI (T : Int))), (0, .ref b), (1, .ref a)]) rfl) ?_
                refine pe_go (pc := 439) rfl (s_iinc (x := 1) (y := 2) rfl (by omega) (lv' := [(15, .int (iI 2)), (14, .int (iI 1)), (13, .int (iI (j : Int))), (11, .ref e), (10, .int (iI (t : Int))), (9, .ref q), (8, .int (iI x8)), (7, .int (iI x7)), (6, .int (iI x6)), (5, .int (iI x5)), (4, .int (iI x4)), (3, .int (iI x3)), (2, .int (iI (T : Int))), (0, .ref b), (1, .ref a)]) rfl) ?_
                refine pe_go (pc := 442) rfl s_goto ?_
                refine pe_go (pc := 373) rfl (s_iload rfl) ?_
                refine pe_go (pc := 375) rfl (s_iconst (z := 3) rfl) ?_
                refine pe_go rfl (s_icmp_ge_f ⟨by decide, by decide⟩ ⟨by decide, by decide⟩ (by decide)) ?_
                refine pe_go (pc := 379) rfl (s_iload rfl) ?_
                refine pe_go rfl (s_if_eq_f ⟨by decide, by decide⟩ (by decide)) ?_
                refine pe_go (pc := 384) rfl (s_aload_n rfl) ?_
                refine pe_go (pc := 385) rfl (s_getf (v := .ref pa) h0 rfl) ?_
                refine pe_go (pc := 388) rfl (s_aload rfl) ?_
                refine pe_go (pc := 390) rfl (s_iload rfl) ?_
                refine pe_go (pc := 392) rfl (s_iald (n := 3) (f := row3 (p0 : Int) (p1 : Int) (p2 : Int)) (v := (p2 : Int)) he (k := 2) (by omega) (by omega) (by decide) rfl) ?_
                refine pe_go (pc := 393) rfl (s_aald h1 (k := p2) (by omega) (by omega) er2) ?_
                refine pe_go (pc := 394) rfl (s_aload_n rfl) ?_
                refine pe_go (pc := 395) rfl (s_getf (v := .ref pa) h0 rfl) ?_
                refine pe_go (pc := 398) rfl (s_aload rfl) ?_
                refine pe_go (pc := 400) rfl (s_iload rfl) ?_
                refine pe_go (pc := 402) rfl (s_iconst (z := 1) rfl) ?_
                refine pe_go (q := (404, [(15, .int (iI 2)), (14, .int (iI 1)), (13, .int (iI (j : Int))), (11, .ref e), (10, .int (iI (t : Int))), (9, .ref q), (8, .int (iI x8)), (7, .int (iI x7)), (6, .int (iI x6)), (5, .int (iI x5)), (4, .int (iI x4)), (3, .int (iI x3)), (2, .int (iI (T : Int))), (0, .ref b), (1, .ref a)], [.int (iI 3), .ref e, .ref pa, .ref r2], w)) rfl s_iadd ?_
                refine pe_go (pc := 404) rfl (s_iconst (z := 3) rfl) ?_
                refine pe_go (pc := 405) rfl (s_irem ⟨by decide, by decide⟩ ⟨by decide, by decide⟩ (by decide) (by decide) (show Int.tmod 3 3 = 0 from by decide)) ?_
                refine pe_go (pc := 406) rfl (s_iald (n := 3) (f := row3 (p0 : Int) (p1 : Int) (p2 : Int)) (v := (p0 : Int)) he (k := 0) (by omega) (by omega) (by decide) rfl) ?_
                refine pe_go (pc := 407) rfl (s_aald h1 (k := p0) (by omega) (by omega) er0) ?_
                refine pe_go (pc := 408) rfl (s_aload_n rfl) ?_
                refine pe_go (pc := 409) rfl (s_getf (v := .ref pa) h0 rfl) ?_
                refine pe_go (pc := 412) rfl (s_iload rfl) ?_
                refine pe_go (pc := 414) rfl (s_aald h1 (k := j) (by omega) (by omega) erj) ?_
                refine pe_go (pc := 415) rfl (s_iconst (z := 0) rfl) ?_
                refine pe_go (pc := 416) rfl (s_iald (n := 3) (f := row3 (S.xs j) (S.ys j) (S.hs j)) (v := S.xs j) hrj (k := 0) (by omega) (by omega) (by decide) rfl) ?_
                refine pe_go (pc := 417) rfl (s_aload_n rfl) ?_
                refine pe_go (pc := 418) rfl (s_getf (v := .ref pa) h0 rfl) ?_
                refine pe_go (pc := 421) rfl (s_iload rfl) ?_
                refine pe_go (pc := 423) rfl (s_aald h1 (k := j) (by omega) (by omega) erj) ?_
                refine pe_go (pc := 424) rfl (s_iconst (z := 1) rfl) ?_
                refine pe_go (pc := 425) rfl (s_iald (n := 3) (f := row3 (S.xs j) (S.ys j) (S.hs j)) (v := S.ys j) hrj (k := 1) (by omega) (by omega) (by decide) rfl) ?_
                refine pe_call rfl (s_invS rfl rfl rfl) (show pRun 146 _ w (some (.int (iI (S.sd3 p2 p0 j)))) w from w_side hr2 hr0) ?_
                by_cases c6 : (S.sd3 p2 p0 j) < 0
                · skip
                  refine pe_go rfl (s_if_lt_t ⟨by omega, by omega⟩ c6) ?_
                  refine pe_go (pc := 436) rfl (s_iconst (z := 0) rfl) ?_
                  refine pe_go (pc := 437) rfl (s_istore (lv' := [(14, .int (iI 0)), (15, .int (iI 2)), (13, .int (iI (j : Int))), (11, .ref e), (10, .int (iI (t : Int))), (9, .ref q), (8, .int (iI x8)), (7, .int (iI x7)), (6, .int (iI x6)), (5, .int (iI x5)), (4, .int (iI x4)), (3, .int (iI x3)), (2, .int (iI (T : Int))), (0, .ref b), (1, .ref a)]) rfl) ?_
                  refine pe_go (pc := 439) rfl (s_iinc (x := 2) (y := 3) rfl (by omega) (lv' := [(15, .int (iI 3)), (14, .int (iI 0)), (13, .int (iI (j : Int))), (11, .ref e), (10, .int (iI (t : Int))), (9, .ref q), (8, .int (iI x8)), (7, .int (iI x7)), (6, .int (iI x6)), (5, .int (iI x5)), (4, .int (iI x4)), (3, .int (iI x3)), (2, .int (iI (T : Int))), (0, .ref b), (1, .ref a)]) rfl) ?_
                  refine pe_go (pc := 442) rfl s_goto ?_
                  refine pe_go (pc := 373) rfl (s_iload rfl) ?_
                  refine pe_go (pc := 375) rfl (s_iconst (z := 3) rfl) ?_
                  refine pe_go rfl (s_icmp_ge_t ⟨by decide, by decide⟩ ⟨by decide, by decide⟩ (by decide)) ?_
                  refine pe_go (pc := 445) rfl (s_iload rfl) ?_
                  refine pe_go rfl (s_if_eq_t ⟨by decide, by decide⟩ (by decide)) ?_
                  refine pe_go (pc := 452) rfl (s_iinc (x := (j : Int)) (y := ((j + 1 : Nat) : Int)) rfl (by omega) (lv' := [(13, .int (iI ((j + 1 : Nat) : Int))), (15, .int (iI 3)), (14, .int (iI 0)), (11, .ref e), (10, .int (iI (t : Int))), (9, .ref q), (8, .int (iI x8)), (7, .int (iI x7)), (6, .int (iI x6)), (5, .int (iI x5)), (4, .int (iI x4)), (3, .int (iI x3)), (2, .int (iI (T : Int))), (0, .ref b), (1, .ref a)]) rfl) ?_
                  refine pe_go (pc := 455) rfl s_goto ?_
                  refine pe_few (lv := [(13, .int (iI ((j + 1 : Nat) : Int))), (11, .ref e), (10, .int (iI (t : Int))), (9, .ref q), (8, .int (iI x8)), (7, .int (iI x7)), (6, .int (iI x6)), (5, .int (iI x5)), (4, .int (iI x4)), (3, .int (iI x3)), (2, .int (iI (T : Int))), (0, .ref b), (1, .ref a)]) rfl rfl (by intro q hq; simp only [List.mem_cons, List.not_mem_nil, or_false] at hq; rcases hq with rfl | rfl | rfl | rfl | rfl | rfl | rfl | rfl | rfl | rfl | rfl | rfl | rfl <;> rfl) ?_
                  exact ih (j + 1) (by omega)
                · skip
                  refine pe_go rfl (s_if_lt_f ⟨by omega, by omega⟩ c6) ?_
                  refine pe_go (pc := 432) rfl (s_iconst (z := 1) rfl) ?_
                  refine pe_go (pc := 433) rfl s_goto ?_
                  refine pe_go (pc := 437) rfl (s_istore (lv' := [(14, .int (iI 1)), (15, .int (iI 2)), (13, .int (iI (j : Int))), (11, .ref e), (10, .int (iI (t : Int))), (9, .ref q), (8, .int (iI x8)), (7, .int (iI x7)), (6, .int (iI x6)), (5, .int (iI x5)), (4, .int (iI x4)), (3, .int (iI x3)), (2, .int (iI (T : Int))), (0, .ref b), (1, .ref a)]) rfl) ?_
                  refine pe_go (pc := 439) rfl (s_iinc (x := 2) (y := 3) rfl (by omega) (lv' := [(15, .int (iI 3)), (14, .int (iI 1)), (13, .int (iI (j : Int))), (11, .ref e), (10, .int (iI (t : Int))), (9, .ref q), (8, .int (iI x8)), (7, .int (iI x7)), (6, .int (iI x6)), (5, .int (iI x5)), (4, .int (iI x4)), (3, .int (iI x3)), (2, .int (iI (T : Int))), (0, .ref b), (1, .ref a)]) rfl) ?_
                  refine pe_go (pc := 442) rfl s_goto ?_
                  refine pe_go (pc := 373) rfl (s_iload rfl) ?_
                  refine pe_go (pc := 375) rfl (s_iconst (z := 3) rfl) ?_
                  refine pe_go rfl (s_icmp_ge_t ⟨by decide, by decide⟩ ⟨by decide, by decide⟩ (by decide)) ?_
                  refine pe_go (pc := 445) rfl (s_iload rfl) ?_
                  refine pe_go rfl (s_if_eq_t ⟨by decide, by decide⟩ (by exfalso; have := hO.1.alone3 k3 hj sj (by omega) (by omega) (by omega); omega)) ?_
                  refine pe_go (pc := 452) rfl (s_iinc (x := (j : Int)) (y := ((j + 1 : Nat) : Int)) rfl (by omega) (lv' := [(13, .int (iI ((j + 1 : Nat) : Int))), (15, .int (iI 3)), (14, .int (iI 1)), (11, .ref e), (10, .int (iI (t : Int))), (9, .ref q), (8, .int (iI x8)), (7, .int (iI x7)), (6, .int (iI x6)), (5, .int (iI x5)), (4, .int (iI x4)), (3, .int (iI x3)), (2, .int (iI (T : Int))), (0, .ref b), (1, .ref a)]) rfl) ?_
                  refine pe_go (pc := 455) rfl s_goto ?_
                  refine pe_few (lv := [(13, .int (iI ((j + 1 : Nat) : Int))), (11, .ref e), (10, .int (iI (t : Int))), (9, .ref q), (8, .int (iI x8)), (7, .int (iI x7)), (6, .int (iI x6)), (5, .int (iI x5)), (4, .int (iI x4)), (3, .int (iI x3)), (2, .int (iI (T : Int))), (0, .ref b), (1, .ref a)]) rfl rfl (by intro q hq; simp only [List.mem_cons, List.not_mem_nil, or_false] at hq; rcases hq with rfl | rfl | rfl | rfl | rfl | rfl | rfl | rfl | rfl | rfl | rfl | rfl | rfl <;> rfl) ?_
                  exact ih (j + 1) (by omega)
    · have ej := h2 j hj (hR.no hj sj)
      refine pe_go (pc := 320) rfl (s_iload rfl) ?_
      refine pe_go (pc := 322) rfl (s_bipush (z := 40) rfl) ?_
      refine pe_go rfl (s_icmp_ge_f ⟨by omega, by omega⟩ ⟨by decide, by decide⟩ (by omega)) ?_
      refine pe_go (pc := 327) rfl (s_aload_n rfl) ?_
      refine pe_go (pc := 328) rfl (s_getf (v := .ref pa) h0 rfl) ?_
      refine pe_go (pc := 331) rfl (s_iload rfl) ?_
      refine pe_go (pc := 333) rfl (s_aaldN h1 (k := j) (by omega) (by omega) ej) ?_
      refine pe_go (pc := 334) rfl s_ifnull_t ?_
      refine pe_go (pc := 452) rfl (s_iinc (x := (j : Int)) (y := ((j + 1 : Nat) : Int)) rfl (by omega) (lv' := [(13, .int (iI ((j + 1 : Nat) : Int))), (11, .ref e), (10, .int (iI (t : Int))), (9, .ref q), (8, .int (iI x8)), (7, .int (iI x7)), (6, .int (iI x6)), (5, .int (iI x5)), (4, .int (iI x4)), (3, .int (iI x3)), (2, .int (iI (T : Int))), (0, .ref b), (1, .ref a)]) rfl) ?_
      refine pe_go (pc := 455) rfl s_goto ?_
      refine pe_few (lv := [(13, .int (iI ((j + 1 : Nat) : Int))), (11, .ref e), (10, .int (iI (t : Int))), (9, .ref q), (8, .int (iI x8)), (7, .int (iI x7)), (6, .int (iI x6)), (5, .int (iI x5)), (4, .int (iI x4)), (3, .int (iI x3)), (2, .int (iI (T : Int))), (0, .ref b), (1, .ref a)]) rfl rfl (by intro q hq; simp only [List.mem_cons, List.not_mem_nil, or_false] at hq; rcases hq with rfl | rfl | rfl | rfl | rfl | rfl | rfl | rfl | rfl | rfl | rfl | rfl | rfl <;> rfl) ?_
      exact ih (j + 1) (by omega)
