/-! THE LAW: one pair of points. Rows laid by program (wip/p63/wk.py, hw.py, mk98x.py). -/
theorem St.inD_lin (S : St) (p q r s : Nat) : inD (S.xs p) (S.ys p) (S.xs q) (S.ys q) (S.xs r) (S.ys r) (S.xs s) (S.ys s) = S.lin p q r s := by
  unfold inD St.lin
  simp only [Int.zero_add]
theorem sq_b4 {x y : Int} (h1 : -2000 ≤ x ∧ x ≤ 2000) (h2 : -2000 ≤ y ∧ y ≤ 2000) : 0 ≤ x * x + y * y ∧ x * x + y * y ≤ 8000000 := by
  have a := sq_b2 h1.1 h1.2
  have b := sq_b2 h2.1 h2.2
  omega
theorem cr_b4 {x y x' y' : Int} (h1 : -2000 ≤ x ∧ x ≤ 2000) (h2 : -2000 ≤ y ∧ y ≤ 2000) (h3 : -2000 ≤ x' ∧ x' ≤ 2000) (h4 : -2000 ≤ y' ∧ y' ≤ 2000) : -8000000 ≤ x * y' - y * x' ∧ x * y' - y * x' ≤ 8000000 := by
  have a := mul_b (x := x) (y := y') (a := 2000) (b := 2000) h1.1 h1.2 h4.1 h4.2
  have b := mul_b (x := y) (y := x') (a := 2000) (b := 2000) h2.1 h2.2 h3.1 h3.2
  omega
theorem St.Ok.lin_b {S : St} (h : S.Ok) {p q r s : Nat} (hp : p < 40) (hq : q < 40) (hr : r < 40) (hs : s < 40) : -1000000000000000 ≤ S.lin p q r s ∧ S.lin p q r s ≤ 1000000000000000 := by
  have bp := h.B p hp
  have bq := h.B q hq
  have br := h.B r hr
  have bs := h.B s hs
  have key : ∀ {z c : Int}, 0 ≤ z ∧ z ≤ 8000000 → -8000000 ≤ c ∧ c ≤ 8000000 → -64000000000000 ≤ z * c ∧ z * c ≤ 64000000000000 := by
    intro z c h1 h2
    have := mul_b (x := z) (y := c) (a := 8000000) (b := 8000000) (by omega) h1.2 h2.1 h2.2
    omega
  unfold St.lin
  have a1 := key (sq_b4 (x := S.xs p - S.xs s) (y := S.ys p - S.ys s) (by omega) (by omega)) (cr_b4 (x := S.xs q - S.xs s) (y := S.ys q - S.ys s) (x' := S.xs r - S.xs s) (y' := S.ys r - S.ys s) (by omega) (by omega) (by omega) (by omega))
  have a2 := key (sq_b4 (x := S.xs q - S.xs s) (y := S.ys q - S.ys s) (by omega) (by omega)) (cr_b4 (x := S.xs r - S.xs s) (y := S.ys r - S.ys s) (x' := S.xs p - S.xs s) (y' := S.ys p - S.ys s) (by omega) (by omega) (by omega) (by omega))
  have a3 := key (sq_b4 (x := S.xs r - S.xs s) (y := S.ys r - S.ys s) (by omega) (by omega)) (cr_b4 (x := S.xs p - S.xs s) (y := S.ys p - S.ys s) (x' := S.xs q - S.xs s) (y' := S.ys q - S.ys s) (by omega) (by omega) (by omega) (by omega))
  omega
/-- the triangle on the left of an edge -/
theorem St.Ok.sid_tri {S : St} (h : S.Ok) {T : Nat} (hT : S.tn = (T : Int)) {x y : Nat} (hx : x < 40) (hy : y < 40) (hE : S.ap (x * 40 + y) ≠ -1) : ∃ t a b c r : Nat, t < T ∧ S.tri3 t a b c ∧ S.sid x y = (t : Int) + 1 ∧ r < 40 ∧ S.ap (x * 40 + y) = (r : Int) ∧ a + b + c = x + y + r := by
  have a1 := h.M.1.PM.1 (x * 40 + y) (by omega)
  obtain ⟨r, hr⟩ := Int.eq_ofNat_of_zero_le (show 0 ≤ S.ap (x * 40 + y) by omega)
  have hr4 : r < 40 := by omega
  obtain ⟨t, t1, t2, t3⟩ := h.ow_row hT hx hy hr4 hr
  obtain ⟨a, b, c, k⟩ := h.tri3 hT t1
  have k' := k
  obtain ⟨⟨ha, hb, hc⟩, -, -, -, -, ⟨e1, e2, e3⟩, -, hrow⟩ := k'
  obtain ⟨h2, h3⟩ := h.M.1.PM.2.1 x y r hx hy hr4 hr
  refine ⟨t, a, b, c, r, t1, k, ?_, hr4, hr, ?_⟩
  · unfold St.sid
    rw [if_neg hE, t2]
  · rcases t3 with g | g | g
    · rw [hrow] at g
      have g := Option.some.inj g
      have ea : a = x := by omega
      have eb : b = y := by omega
      subst ea eb
      omega
    · rw [hrow] at g
      have g := Option.some.inj g
      have ea : a = y := by omega
      have eb : b = r := by omega
      subst ea eb
      omega
    · rw [hrow] at g
      have g := Option.some.inj g
      have ea : a = r := by omega
      have eb : b = x := by omega
      subst ea eb
      omega
theorem isEdge_y {w : pW} {pre post : pW} {b : Nat} (hb : pre.length = b) {S : St} {L M : List St} {K : St} (hO : OB pre post b S L M K w) {u v : Nat} (hu : u < 40) (hv : v < 40) (h : S.nr u v) : pRun 113 [.ref b, .int (iI (u : Int)), .int (iI (v : Int))] w (some (.int (iI 1))) w := by
  have := o_isEdge hb hO hu hv
  rw [decide_eq_true (show S.has u ∧ S.has v ∧ bt (S.ne u) v = true from ⟨hO.1.nr v u hv hu (hO.1.nr_sym hu hv h), hO.1.nr u v hu hv h, h⟩)] at this
  exact this
theorem isEdge_n {w : pW} {pre post : pW} {b : Nat} (hb : pre.length = b) {S : St} {L M : List St} {K : St} (hO : OB pre post b S L M K w) {u v : Nat} (hu : u < 40) (hv : v < 40) (h : ¬ S.nr u v) : pRun 113 [.ref b, .int (iI (u : Int)), .int (iI (v : Int))] w (some (.int (iI 0))) w := by
  have := o_isEdge hb hO hu hv
  rw [decide_eq_false (show ¬ (S.has u ∧ S.has v ∧ bt (S.ne u) v = true) from fun z => h z.2.2)] at this
  exact this
theorem isFixed_y {w : pW} {pre post : pW} {b : Nat} (hb : pre.length = b) {S : St} {L M : List St} {K : St} (hO : OB pre post b S L M K w) {u v : Nat} (hu : u < 40) (hv : v < 40) (h : S.bound u v) : pRun 114 [.ref b, .int (iI (u : Int)), .int (iI (v : Int))] w (some (.int (iI 1))) w := by
  have := o_isFixed hb hO hu hv
  obtain ⟨-, s1, s2, -⟩ := hO.1.M.2.1.1 u v hu hv h
  rw [decide_eq_true (show S.has u ∧ S.has v ∧ S.bound u v from ⟨s1, s2, h⟩)] at this
  exact this
theorem isFixed_n {w : pW} {pre post : pW} {b : Nat} (hb : pre.length = b) {S : St} {L M : List St} {K : St} (hO : OB pre post b S L M K w) {u v : Nat} (hu : u < 40) (hv : v < 40) (h : ¬ S.bound u v) : pRun 114 [.ref b, .int (iI (u : Int)), .int (iI (v : Int))] w (some (.int (iI 0))) w := by
  have := o_isFixed hb hO hu hv
  rw [decide_eq_false (show ¬ (S.has u ∧ S.has v ∧ S.bound u v) from fun z => h z.2.2)] at this
  exact this
theorem l_pairA {w : pW} {pre post : pW} {b : Nat} (hb : pre.length = b) {S : St} {L M : List St} {K : St} (hO : OB pre post b S L M K w) {O Q : Nat → Prop} {a : Nat} {X : Sh} {pa fa ha : Nat} {pf gf hf : Nat → Option Nat} {ff : Nat → Nat} (hS : shP w O Q a X pa fa ha pf gf hf ff) {q : Nat} {tf : Nat → Option Nat} {tr : Nat → Nat} {G : Nat → Nat → Int} (hT9 : tabAt w q tf tr G) {x3 x4 x5 x6 x7 x8 : Int} {T : Nat} {Φ : Option Value → pW → Prop} {u v : Nat} (hu : u < 40) (huv : v < u) (hh : X.2.1 u v = 0) (hg : 0 ≤ G u v ∧ G u v ≤ 74 ∧ 0 ≤ G v u ∧ G v u ≤ 74) (hN : 0 < G u v + G v u ↔ S.nr u v) (hn : ¬ S.nr u v) (hbo : ¬ S.bound u v) (KK : qE 151 (942, [(11, .int (iI (v : Int))), (10, .int (iI (u : Int))), (9, .ref q), (8, .int (iI x8)), (7, .int (iI x7)), (6, .int (iI x6)), (5, .int (iI x5)), (4, .int (iI x4)), (3, .int (iI x3)), (2, .int (iI (T : Int))), (0, .ref b), (1, .ref a)], [], w) Φ) : qE 151 (497, [(11, .int (iI (v : Int))), (10, .int (iI (u : Int))), (9, .ref q), (8, .int (iI x8)), (7, .int (iI x7)), (6, .int (iI x6)), (5, .int (iI x5)), (4, .int (iI x4)), (3, .int (iI x3)), (2, .int (iI (T : Int))), (0, .ref b), (1, .ref a)], [], w) Φ := by
  obtain ⟨hb9, h0, h1, h2, h3, h4, h5, h6, h7, h8, h9⟩ := hS
  obtain ⟨efu, -, hfu⟩ := h5 u hu
  have hv : v < 40 := by omega
  obtain ⟨eu, htu⟩ := hT9.2 u hu
  obtain ⟨ev, htv⟩ := hT9.2 v hv
  have hs := mul_b (x := G u v) (y := G v u) (a := 74) (b := 74) (by omega) (by omega) (by omega) (by omega)
  have hi : ¬ 0 < G u v + G v u := fun z => hn (hN.mp z)
  have hn2 : ¬ S.nr v u := fun z => hn (hO.1.nr_sym hv hu z)
  refine pe_go (pc := 497) rfl (s_iload rfl) ?_
  refine pe_go (pc := 499) rfl (s_iload rfl) ?_
  refine pe_go rfl (s_icmp_ge_f ⟨by omega, by omega⟩ ⟨by omega, by omega⟩ (by omega)) ?_
  refine pe_go (pc := 504) rfl (s_aload_n rfl) ?_
  refine pe_go (pc := 505) rfl (s_getf (v := .ref fa) h0 rfl) ?_
  refine pe_go (pc := 508) rfl (s_iload rfl) ?_
  refine pe_go (pc := 510) rfl (s_aald h4 (k := u) (by omega) (by omega) efu) ?_
  refine pe_go (pc := 511) rfl (s_iload rfl) ?_
  refine pe_go (pc := 513) rfl (s_iald (n := 40) (f := X.2.1 u) (v := 0) hfu (k := v) (by omega) (by omega) (by decide) hh) ?_
  refine pe_go (pc := 514) rfl (s_istore (lv' := [(12, .int (iI 0)), (11, .int (iI (v : Int))), (10, .int (iI (u : Int))), (9, .ref q), (8, .int (iI x8)), (7, .int (iI x7)), (6, .int (iI x6)), (5, .int (iI x5)), (4, .int (iI x4)), (3, .int (iI x3)), (2, .int (iI (T : Int))), (0, .ref b), (1, .ref a)]) rfl) ?_
  refine pe_go (pc := 516) rfl (s_aload rfl) ?_
  refine pe_go (pc := 518) rfl (s_iload rfl) ?_
  refine pe_go (pc := 520) rfl (s_aald hT9.1 (k := u) (by omega) (by omega) eu) ?_
  refine pe_go (pc := 521) rfl (s_iload rfl) ?_
  refine pe_go (pc := 523) rfl (s_iald (n := 40) (f := G u) (v := G u v) htu (k := v) (by omega) (by omega) (by decide) rfl) ?_
  refine pe_go (pc := 524) rfl (s_aload rfl) ?_
  refine pe_go (pc := 526) rfl (s_iload rfl) ?_
  refine pe_go (pc := 528) rfl (s_aald hT9.1 (k := v) (by omega) (by omega) ev) ?_
  refine pe_go (pc := 529) rfl (s_iload rfl) ?_
  refine pe_go (pc := 531) rfl (s_iald (n := 40) (f := G v) (v := G v u) htv (k := u) (by omega) (by omega) (by decide) rfl) ?_
  refine pe_go (pc := 532) rfl s_iadd ?_
  refine pe_go rfl (s_if_le_t ⟨by omega, by omega⟩ (by omega)) ?_
  refine pe_go (pc := 540) rfl (s_iconst (z := 0) rfl) ?_
  refine pe_go (pc := 541) rfl (s_istore (lv' := [(13, .int (iI 0)), (12, .int (iI 0)), (11, .int (iI (v : Int))), (10, .int (iI (u : Int))), (9, .ref q), (8, .int (iI x8)), (7, .int (iI x7)), (6, .int (iI x6)), (5, .int (iI x5)), (4, .int (iI x4)), (3, .int (iI x3)), (2, .int (iI (T : Int))), (0, .ref b), (1, .ref a)]) rfl) ?_
  refine pe_go (pc := 543) rfl (s_iload rfl) ?_
  refine pe_go (pc := 545) rfl (s_iload rfl) ?_
  refine pe_go rfl (s_if_le_t ⟨by decide, by decide⟩ (by decide)) ?_
  refine pe_go (pc := 554) rfl (s_iconst (z := 0) rfl) ?_
  refine pe_go (pc := 555) rfl s_iadd0 ?_
  refine pe_go (pc := 556) rfl (s_istore (lv' := [(5, .int (iI x5)), (13, .int (iI 0)), (12, .int (iI 0)), (11, .int (iI (v : Int))), (10, .int (iI (u : Int))), (9, .ref q), (8, .int (iI x8)), (7, .int (iI x7)), (6, .int (iI x6)), (4, .int (iI x4)), (3, .int (iI x3)), (2, .int (iI (T : Int))), (0, .ref b), (1, .ref a)]) rfl) ?_
  refine pe_go (pc := 558) rfl (s_iload rfl) ?_
  refine pe_go (pc := 560) rfl (s_iload rfl) ?_
  refine pe_go (pc := 562) rfl (s_iconst (z := 1) rfl) ?_
  refine pe_go rfl (s_icmp_le_t ⟨by decide, by decide⟩ ⟨by decide, by decide⟩ (by decide)) ?_
  refine pe_go (pc := 570) rfl (s_iconst (z := 0) rfl) ?_
  refine pe_go (pc := 571) rfl s_iadd0 ?_
  refine pe_go (pc := 572) rfl (s_istore (lv' := [(6, .int (iI x6)), (5, .int (iI x5)), (13, .int (iI 0)), (12, .int (iI 0)), (11, .int (iI (v : Int))), (10, .int (iI (u : Int))), (9, .ref q), (8, .int (iI x8)), (7, .int (iI x7)), (4, .int (iI x4)), (3, .int (iI x3)), (2, .int (iI (T : Int))), (0, .ref b), (1, .ref a)]) rfl) ?_
  refine pe_go (pc := 574) rfl (s_iload rfl) ?_
  refine pe_go (pc := 576) rfl (s_iload rfl) ?_
  refine pe_go rfl (s_if_eq_t ⟨by decide, by decide⟩ (by decide)) ?_
  refine pe_go (pc := 585) rfl (s_iconst (z := 0) rfl) ?_
  refine pe_go (pc := 586) rfl s_iadd0 ?_
  refine pe_go (pc := 587) rfl (s_istore (lv' := [(7, .int (iI x7)), (6, .int (iI x6)), (5, .int (iI x5)), (13, .int (iI 0)), (12, .int (iI 0)), (11, .int (iI (v : Int))), (10, .int (iI (u : Int))), (9, .ref q), (8, .int (iI x8)), (4, .int (iI x4)), (3, .int (iI x3)), (2, .int (iI (T : Int))), (0, .ref b), (1, .ref a)]) rfl) ?_
  refine pe_go (pc := 589) rfl (s_iload rfl) ?_
  refine pe_go rfl (s_if_le_t ⟨by decide, by decide⟩ (by decide)) ?_
  refine pe_go (pc := 599) rfl (s_aload_n rfl) ?_
  refine pe_go (pc := 600) rfl (s_iload rfl) ?_
  refine pe_go (pc := 602) rfl (s_iload rfl) ?_
  refine pe_call rfl (s_invV rfl (OB.obj hb hO) rfl rfl) (isEdge_n hb hO hu hv hn) ?_
  refine pe_go (pc := 607) rfl (s_iload rfl) ?_
  refine pe_go rfl (s_icmp_ne_f ⟨by decide, by decide⟩ ⟨by decide, by decide⟩ (by decide)) ?_
  refine pe_go (pc := 612) rfl (s_aload_n rfl) ?_
  refine pe_go (pc := 613) rfl (s_iload rfl) ?_
  refine pe_go (pc := 615) rfl (s_iload rfl) ?_
  refine pe_call rfl (s_invV rfl (OB.obj hb hO) rfl rfl) (isEdge_n hb hO hv hu hn2) ?_
  refine pe_go (pc := 620) rfl (s_iload rfl) ?_
  refine pe_go rfl (s_icmp_ne_f ⟨by decide, by decide⟩ ⟨by decide, by decide⟩ (by decide)) ?_
  refine pe_go (pc := 625) rfl (s_aload_n rfl) ?_
  refine pe_go (pc := 626) rfl (s_iload rfl) ?_
  refine pe_go (pc := 628) rfl (s_iload rfl) ?_
  refine pe_call rfl (s_invV rfl (OB.obj hb hO) rfl rfl) (isFixed_n hb hO hu hv hbo) ?_
  refine pe_go (pc := 633) rfl (s_iload rfl) ?_
  refine pe_go rfl (s_if_le_t ⟨by decide, by decide⟩ (by decide)) ?_
  refine pe_go (pc := 642) rfl (s_iconst (z := 0) rfl) ?_
  refine pe_go rfl (s_icmp_ne_f ⟨by decide, by decide⟩ ⟨by decide, by decide⟩ (by decide)) ?_
  refine pe_go (pc := 646) rfl (s_iload rfl) ?_
  refine pe_go (pc := 648) rfl (s_iconst (z := 1) rfl) ?_
  refine pe_go rfl (s_icmp_le_t ⟨by decide, by decide⟩ ⟨by decide, by decide⟩ (by decide)) ?_
  refine pe_go (pc := 656) rfl (s_iconst (z := 0) rfl) ?_
  refine pe_go (pc := 657) rfl (s_iload rfl) ?_
  refine pe_go rfl (s_if_eq_t ⟨by decide, by decide⟩ (by decide)) ?_
  refine pe_go (pc := 686) rfl (s_iconst (z := 0) rfl) ?_
  refine pe_go rfl (s_icmp_eq_t ⟨by decide, by decide⟩ ⟨by decide, by decide⟩ (by decide)) ?_
  refine pe_go (pc := 692) rfl (s_iload rfl) ?_
  refine pe_go rfl (s_if_eq_t ⟨by decide, by decide⟩ (by decide)) ?_
  refine pe_few (lv := [(11, .int (iI (v : Int))), (10, .int (iI (u : Int))), (9, .ref q), (8, .int (iI x8)), (7, .int (iI x7)), (6, .int (iI x6)), (5, .int (iI x5)), (4, .int (iI x4)), (3, .int (iI x3)), (2, .int (iI (T : Int))), (0, .ref b), (1, .ref a)]) rfl rfl (by intro q hq; simp only [List.mem_cons, List.not_mem_nil, or_false] at hq; rcases hq with rfl | rfl | rfl | rfl | rfl | rfl | rfl | rfl | rfl | rfl | rfl | rfl <;> rfl) ?_
  exact KK
theorem l_pairB {w : pW} {pre post : pW} {b : Nat} (hb : pre.length = b) {S : St} {L M : List St} {K : St} (hO : OB pre post b S L M K w) {O Q : Nat → Prop} {a : Nat} {X : Sh} {pa fa ha : Nat} {pf gf hf : Nat → Option Nat} {ff : Nat → Nat} (hS : shP w O Q a X pa fa ha pf gf hf ff) {q : Nat} {tf : Nat → Option Nat} {tr : Nat → Nat} {G : Nat → Nat → Int} (hT9 : tabAt w q tf tr G) {x3 x4 x5 x6 x7 x8 : Int} {T : Nat} {Φ : Option Value → pW → Prop} {u v : Nat} (hu : u < 40) (huv : v < u) (hh : X.2.1 u v = 0) (hg : 0 ≤ G u v ∧ G u v ≤ 74 ∧ 0 ≤ G v u ∧ G v u ≤ 74) (hN : 0 < G u v + G v u ↔ S.nr u v) (hn : S.nr u v) (hbo : ¬ S.bound u v) (hpr : G u v * G v u ≠ 0) (KK : qE 151 (706, [(12, .int (iI 0)), (11, .int (iI (v : Int))), (10, .int (iI (u : Int))), (9, .ref q), (8, .int (iI x8)), (7, .int (iI (x7 + 1))), (6, .int (iI x6)), (5, .int (iI x5)), (4, .int (iI x4)), (3, .int (iI x3)), (2, .int (iI (T : Int))), (0, .ref b), (1, .ref a)], [], w) Φ) : qE 151 (497, [(11, .int (iI (v : Int))), (10, .int (iI (u : Int))), (9, .ref q), (8, .int (iI x8)), (7, .int (iI x7)), (6, .int (iI x6)), (5, .int (iI x5)), (4, .int (iI x4)), (3, .int (iI x3)), (2, .int (iI (T : Int))), (0, .ref b), (1, .ref a)], [], w) Φ := by
  obtain ⟨hb9, h0, h1, h2, h3, h4, h5, h6, h7, h8, h9⟩ := hS
  obtain ⟨efu, -, hfu⟩ := h5 u hu
  have hv : v < 40 := by omega
  obtain ⟨eu, htu⟩ := hT9.2 u hu
  obtain ⟨ev, htv⟩ := hT9.2 v hv
  have hs := mul_b (x := G u v) (y := G v u) (a := 74) (b := 74) (by omega) (by omega) (by omega) (by omega)
  have hi : 0 < G u v + G v u := hN.mpr hn
  have hn2 := hO.1.nr_sym hu hv hn
  refine pe_go (pc := 497) rfl (s_iload rfl) ?_
  refine pe_go (pc := 499) rfl (s_iload rfl) ?_
  refine pe_go rfl (s_icmp_ge_f ⟨by omega, by omega⟩ ⟨by omega, by omega⟩ (by omega)) ?_
  refine pe_go (pc := 504) rfl (s_aload_n rfl) ?_
  refine pe_go (pc := 505) rfl (s_getf (v := .ref fa) h0 rfl) ?_
  refine pe_go (pc := 508) rfl (s_iload rfl) ?_
  refine pe_go (pc := 510) rfl (s_aald h4 (k := u) (by omega) (by omega) efu) ?_
  refine pe_go (pc := 511) rfl (s_iload rfl) ?_
  refine pe_go (pc := 513) rfl (s_iald (n := 40) (f := X.2.1 u) (v := 0) hfu (k := v) (by omega) (by omega) (by decide) hh) ?_
  refine pe_go (pc := 514) rfl (s_istore (lv' := [(12, .int (iI 0)), (11, .int (iI (v : Int))), (10, .int (iI (u : Int))), (9, .ref q), (8, .int (iI x8)), (7, .int (iI x7)), (6, .int (iI x6)), (5, .int (iI x5)), (4, .int (iI x4)), (3, .int (iI x3)), (2, .int (iI (T : Int))), (0, .ref b), (1, .ref a)]) rfl) ?_
  refine pe_go (pc := 516) rfl (s_aload rfl) ?_
  refine pe_go (pc := 518) rfl (s_iload rfl) ?_
  refine pe_go (pc := 520) rfl (s_aald hT9.1 (k := u) (by omega) (by omega) eu) ?_
  refine pe_go (pc := 521) rfl (s_iload rfl) ?_
  refine pe_go (pc := 523) rfl (s_iald (n := 40) (f := G u) (v := G u v) htu (k := v) (by omega) (by omega) (by decide) rfl) ?_
  refine pe_go (pc := 524) rfl (s_aload rfl) ?_
  refine pe_go (pc := 526) rfl (s_iload rfl) ?_
  refine pe_go (pc := 528) rfl (s_aald hT9.1 (k := v) (by omega) (by omega) ev) ?_
  refine pe_go (pc := 529) rfl (s_iload rfl) ?_
  refine pe_go (pc := 531) rfl (s_iald (n := 40) (f := G v) (v := G v u) htv (k := u) (by omega) (by omega) (by decide) rfl) ?_
  refine pe_go (pc := 532) rfl s_iadd ?_
  refine pe_go rfl (s_if_le_f ⟨by omega, by omega⟩ (by omega)) ?_
  refine pe_go (pc := 536) rfl (s_iconst (z := 1) rfl) ?_
  refine pe_go (pc := 537) rfl s_goto ?_
  refine pe_go (pc := 541) rfl (s_istore (lv' := [(13, .int (iI 1)), (12, .int (iI 0)), (11, .int (iI (v : Int))), (10, .int (iI (u : Int))), (9, .ref q), (8, .int (iI x8)), (7, .int (iI x7)), (6, .int (iI x6)), (5, .int (iI x5)), (4, .int (iI x4)), (3, .int (iI x3)), (2, .int (iI (T : Int))), (0, .ref b), (1, .ref a)]) rfl) ?_
  refine pe_go (pc := 543) rfl (s_iload rfl) ?_
  refine pe_go (pc := 545) rfl (s_iload rfl) ?_
  refine pe_go rfl (s_if_le_t ⟨by decide, by decide⟩ (by decide)) ?_
  refine pe_go (pc := 554) rfl (s_iconst (z := 0) rfl) ?_
  refine pe_go (pc := 555) rfl s_iadd0 ?_
  refine pe_go (pc := 556) rfl (s_istore (lv' := [(5, .int (iI x5)), (13, .int (iI 1)), (12, .int (iI 0)), (11, .int (iI (v : Int))), (10, .int (iI (u : Int))), (9, .ref q), (8, .int (iI x8)), (7, .int (iI x7)), (6, .int (iI x6)), (4, .int (iI x4)), (3, .int (iI x3)), (2, .int (iI (T : Int))), (0, .ref b), (1, .ref a)]) rfl) ?_
  refine pe_go (pc := 558) rfl (s_iload rfl) ?_
  refine pe_go (pc := 560) rfl (s_iload rfl) ?_
  refine pe_go (pc := 562) rfl (s_iconst (z := 1) rfl) ?_
  refine pe_go rfl (s_icmp_le_t ⟨by decide, by decide⟩ ⟨by decide, by decide⟩ (by decide)) ?_
  refine pe_go (pc := 570) rfl (s_iconst (z := 0) rfl) ?_
  refine pe_go (pc := 571) rfl s_iadd0 ?_
  refine pe_go (pc := 572) rfl (s_istore (lv' := [(6, .int (iI x6)), (5, .int (iI x5)), (13, .int (iI 1)), (12, .int (iI 0)), (11, .int (iI (v : Int))), (10, .int (iI (u : Int))), (9, .ref q), (8, .int (iI x8)), (7, .int (iI x7)), (4, .int (iI x4)), (3, .int (iI x3)), (2, .int (iI (T : Int))), (0, .ref b), (1, .ref a)]) rfl) ?_
  refine pe_go (pc := 574) rfl (s_iload rfl) ?_
  refine pe_go (pc := 576) rfl (s_iload rfl) ?_
  refine pe_go rfl (s_if_eq_f ⟨by decide, by decide⟩ (by decide)) ?_
  refine pe_go (pc := 581) rfl (s_iconst (z := 1) rfl) ?_
  refine pe_go (pc := 582) rfl s_goto ?_
  refine pe_go (pc := 586) rfl s_iadd ?_
  refine pe_go (pc := 587) rfl (s_istore (lv' := [(7, .int (iI (x7 + 1))), (6, .int (iI x6)), (5, .int (iI x5)), (13, .int (iI 1)), (12, .int (iI 0)), (11, .int (iI (v : Int))), (10, .int (iI (u : Int))), (9, .ref q), (8, .int (iI x8)), (4, .int (iI x4)), (3, .int (iI x3)), (2, .int (iI (T : Int))), (0, .ref b), (1, .ref a)]) rfl) ?_
  refine pe_go (pc := 589) rfl (s_iload rfl) ?_
  refine pe_go rfl (s_if_le_t ⟨by decide, by decide⟩ (by decide)) ?_
  refine pe_go (pc := 599) rfl (s_aload_n rfl) ?_
  refine pe_go (pc := 600) rfl (s_iload rfl) ?_
  refine pe_go (pc := 602) rfl (s_iload rfl) ?_
  refine pe_call rfl (s_invV rfl (OB.obj hb hO) rfl rfl) (isEdge_y hb hO hu hv hn) ?_
  refine pe_go (pc := 607) rfl (s_iload rfl) ?_
  refine pe_go rfl (s_icmp_ne_f ⟨by decide, by decide⟩ ⟨by decide, by decide⟩ (by decide)) ?_
  refine pe_go (pc := 612) rfl (s_aload_n rfl) ?_
  refine pe_go (pc := 613) rfl (s_iload rfl) ?_
  refine pe_go (pc := 615) rfl (s_iload rfl) ?_
  refine pe_call rfl (s_invV rfl (OB.obj hb hO) rfl rfl) (isEdge_y hb hO hv hu hn2) ?_
  refine pe_go (pc := 620) rfl (s_iload rfl) ?_
  refine pe_go rfl (s_icmp_ne_f ⟨by decide, by decide⟩ ⟨by decide, by decide⟩ (by decide)) ?_
  refine pe_go (pc := 625) rfl (s_aload_n rfl) ?_
  refine pe_go (pc := 626) rfl (s_iload rfl) ?_
  refine pe_go (pc := 628) rfl (s_iload rfl) ?_
  refine pe_call rfl (s_invV rfl (OB.obj hb hO) rfl rfl) (isFixed_n hb hO hu hv hbo) ?_
  refine pe_go (pc := 633) rfl (s_iload rfl) ?_
  refine pe_go rfl (s_if_le_t ⟨by decide, by decide⟩ (by decide)) ?_
  refine pe_go (pc := 642) rfl (s_iconst (z := 0) rfl) ?_
  refine pe_go rfl (s_icmp_ne_f ⟨by decide, by decide⟩ ⟨by decide, by decide⟩ (by decide)) ?_
  refine pe_go (pc := 646) rfl (s_iload rfl) ?_
  refine pe_go (pc := 648) rfl (s_iconst (z := 1) rfl) ?_
  refine pe_go rfl (s_icmp_le_t ⟨by decide, by decide⟩ ⟨by decide, by decide⟩ (by decide)) ?_
  refine pe_go (pc := 656) rfl (s_iconst (z := 0) rfl) ?_
  refine pe_go (pc := 657) rfl (s_iload rfl) ?_
  refine pe_go rfl (s_if_eq_f ⟨by decide, by decide⟩ (by decide)) ?_
  refine pe_go (pc := 662) rfl (s_aload rfl) ?_
  refine pe_go (pc := 664) rfl (s_iload rfl) ?_
  refine pe_go (pc := 666) rfl (s_aald hT9.1 (k := u) (by omega) (by omega) eu) ?_
  refine pe_go (pc := 667) rfl (s_iload rfl) ?_
  refine pe_go (pc := 669) rfl (s_iald (n := 40) (f := G u) (v := G u v) htu (k := v) (by omega) (by omega) (by decide) rfl) ?_
  refine pe_go (pc := 670) rfl (s_aload rfl) ?_
  refine pe_go (pc := 672) rfl (s_iload rfl) ?_
  refine pe_go (pc := 674) rfl (s_aald hT9.1 (k := v) (by omega) (by omega) ev) ?_
  refine pe_go (pc := 675) rfl (s_iload rfl) ?_
  refine pe_go (pc := 677) rfl (s_iald (n := 40) (f := G v) (v := G v u) htv (k := u) (by omega) (by omega) (by decide) rfl) ?_
  refine pe_go (pc := 678) rfl s_imul ?_
  refine pe_go rfl (s_if_ne_t ⟨by omega, by omega⟩ (by omega)) ?_
  refine pe_go (pc := 686) rfl (s_iconst (z := 0) rfl) ?_
  refine pe_go rfl (s_icmp_eq_t ⟨by decide, by decide⟩ ⟨by decide, by decide⟩ (by decide)) ?_
  refine pe_go (pc := 692) rfl (s_iload rfl) ?_
  refine pe_go rfl (s_if_eq_f ⟨by decide, by decide⟩ (by decide)) ?_
  refine pe_go (pc := 697) rfl (s_iload rfl) ?_
  refine pe_go (pc := 699) rfl (s_iconst (z := 1) rfl) ?_
  refine pe_go rfl (s_icmp_le_t ⟨by decide, by decide⟩ ⟨by decide, by decide⟩ (by decide)) ?_
  refine pe_few (lv := [(12, .int (iI 0)), (11, .int (iI (v : Int))), (10, .int (iI (u : Int))), (9, .ref q), (8, .int (iI x8)), (7, .int (iI (x7 + 1))), (6, .int (iI x6)), (5, .int (iI x5)), (4, .int (iI x4)), (3, .int (iI x3)), (2, .int (iI (T : Int))), (0, .ref b), (1, .ref a)]) rfl rfl (by intro q hq; simp only [List.mem_cons, List.not_mem_nil, or_false] at hq; rcases hq with rfl | rfl | rfl | rfl | rfl | rfl | rfl | rfl | rfl | rfl | rfl | rfl | rfl <;> rfl) ?_
  exact KK
theorem l_pairC {w : pW} {pre post : pW} {b : Nat} (hb : pre.length = b) {S : St} {L M : List St} {K : St} (hO : OB pre post b S L M K w) {O Q : Nat → Prop} {a : Nat} {X : Sh} {pa fa ha : Nat} {pf gf hf : Nat → Option Nat} {ff : Nat → Nat} (hS : shP w O Q a X pa fa ha pf gf hf ff) {q : Nat} {tf : Nat → Option Nat} {tr : Nat → Nat} {G : Nat → Nat → Int} (hT9 : tabAt w q tf tr G) {x3 x4 x5 x6 x7 x8 : Int} {T : Nat} {Φ : Option Value → pW → Prop} {u v : Nat} (hu : u < 40) (huv : v < u) (hh : X.2.1 u v = 1) (hg : 0 ≤ G u v ∧ G u v ≤ 74 ∧ 0 ≤ G v u ∧ G v u ≤ 74) (hN : 0 < G u v + G v u ↔ S.nr u v) (hn : S.nr u v) (hbo : S.bound u v) (hpr : G u v * G v u ≠ 0) (KK : qE 151 (706, [(12, .int (iI 1)), (11, .int (iI (v : Int))), (10, .int (iI (u : Int))), (9, .ref q), (8, .int (iI x8)), (7, .int (iI (x7 + 1))), (6, .int (iI x6)), (5, .int (iI (x5 + 1))), (4, .int (iI x4)), (3, .int (iI x3)), (2, .int (iI (T : Int))), (0, .ref b), (1, .ref a)], [], w) Φ) : qE 151 (497, [(11, .int (iI (v : Int))), (10, .int (iI (u : Int))), (9, .ref q), (8, .int (iI x8)), (7, .int (iI x7)), (6, .int (iI x6)), (5, .int (iI x5)), (4, .int (iI x4)), (3, .int (iI x3)), (2, .int (iI (T : Int))), (0, .ref b), (1, .ref a)], [], w) Φ := by
  obtain ⟨hb9, h0, h1, h2, h3, h4, h5, h6, h7, h8, h9⟩ := hS
  obtain ⟨efu, -, hfu⟩ := h5 u hu
  have hv : v < 40 := by omega
  obtain ⟨eu, htu⟩ := hT9.2 u hu
  obtain ⟨ev, htv⟩ := hT9.2 v hv
  have hs := mul_b (x := G u v) (y := G v u) (a := 74) (b := 74) (by omega) (by omega) (by omega) (by omega)
  have hi : 0 < G u v + G v u := hN.mpr hn
  have hn2 := hO.1.nr_sym hu hv hn
  refine pe_go (pc := 497) rfl (s_iload rfl) ?_
  refine pe_go (pc := 499) rfl (s_iload rfl) ?_
  refine pe_go rfl (s_icmp_ge_f ⟨by omega, by omega⟩ ⟨by omega, by omega⟩ (by omega)) ?_
  refine pe_go (pc := 504) rfl (s_aload_n rfl) ?_
  refine pe_go (pc := 505) rfl (s_getf (v := .ref fa) h0 rfl) ?_
  refine pe_go (pc := 508) rfl (s_iload rfl) ?_
  refine pe_go (pc := 510) rfl (s_aald h4 (k := u) (by omega) (by omega) efu) ?_
  refine pe_go (pc := 511) rfl (s_iload rfl) ?_
  refine pe_go (pc := 513) rfl (s_iald (n := 40) (f := X.2.1 u) (v := 1) hfu (k := v) (by omega) (by omega) (by decide) hh) ?_
  refine pe_go (pc := 514) rfl (s_istore (lv' := [(12, .int (iI 1)), (11, .int (iI (v : Int))), (10, .int (iI (u : Int))), (9, .ref q), (8, .int (iI x8)), (7, .int (iI x7)), (6, .int (iI x6)), (5, .int (iI x5)), (4, .int (iI x4)), (3, .int (iI x3)), (2, .int (iI (T : Int))), (0, .ref b), (1, .ref a)]) rfl) ?_
  refine pe_go (pc := 516) rfl (s_aload rfl) ?_
  refine pe_go (pc := 518) rfl (s_iload rfl) ?_
  refine pe_go (pc := 520) rfl (s_aald hT9.1 (k := u) (by omega) (by omega) eu) ?_
  refine pe_go (pc := 521) rfl (s_iload rfl) ?_
  refine pe_go (pc := 523) rfl (s_iald (n := 40) (f := G u) (v := G u v) htu (k := v) (by omega) (by omega) (by decide) rfl) ?_
  refine pe_go (pc := 524) rfl (s_aload rfl) ?_
  refine pe_go (pc := 526) rfl (s_iload rfl) ?_
  refine pe_go (pc := 528) rfl (s_aald hT9.1 (k := v) (by omega) (by omega) ev) ?_
  refine pe_go (pc := 529) rfl (s_iload rfl) ?_
  refine pe_go (pc := 531) rfl (s_iald (n := 40) (f := G v) (v := G v u) htv (k := u) (by omega) (by omega) (by decide) rfl) ?_
  refine pe_go (pc := 532) rfl s_iadd ?_
  refine pe_go rfl (s_if_le_f ⟨by omega, by omega⟩ (by omega)) ?_
  refine pe_go (pc := 536) rfl (s_iconst (z := 1) rfl) ?_
  refine pe_go (pc := 537) rfl s_goto ?_
  refine pe_go (pc := 541) rfl (s_istore (lv' := [(13, .int (iI 1)), (12, .int (iI 1)), (11, .int (iI (v : Int))), (10, .int (iI (u : Int))), (9, .ref q), (8, .int (iI x8)), (7, .int (iI x7)), (6, .int (iI x6)), (5, .int (iI x5)), (4, .int (iI x4)), (3, .int (iI x3)), (2, .int (iI (T : Int))), (0, .ref b), (1, .ref a)]) rfl) ?_
  refine pe_go (pc := 543) rfl (s_iload rfl) ?_
  refine pe_go (pc := 545) rfl (s_iload rfl) ?_
  refine pe_go rfl (s_if_le_f ⟨by decide, by decide⟩ (by decide)) ?_
  refine pe_go (pc := 550) rfl (s_iconst (z := 1) rfl) ?_
  refine pe_go (pc := 551) rfl s_goto ?_
  refine pe_go (pc := 555) rfl s_iadd ?_
  refine pe_go (pc := 556) rfl (s_istore (lv' := [(5, .int (iI (x5 + 1))), (13, .int (iI 1)), (12, .int (iI 1)), (11, .int (iI (v : Int))), (10, .int (iI (u : Int))), (9, .ref q), (8, .int (iI x8)), (7, .int (iI x7)), (6, .int (iI x6)), (4, .int (iI x4)), (3, .int (iI x3)), (2, .int (iI (T : Int))), (0, .ref b), (1, .ref a)]) rfl) ?_
  refine pe_go (pc := 558) rfl (s_iload rfl) ?_
  refine pe_go (pc := 560) rfl (s_iload rfl) ?_
  refine pe_go (pc := 562) rfl (s_iconst (z := 1) rfl) ?_
  refine pe_go rfl (s_icmp_le_t ⟨by decide, by decide⟩ ⟨by decide, by decide⟩ (by decide)) ?_
  refine pe_go (pc := 570) rfl (s_iconst (z := 0) rfl) ?_
  refine pe_go (pc := 571) rfl s_iadd0 ?_
  refine pe_go (pc := 572) rfl (s_istore (lv' := [(6, .int (iI x6)), (5, .int (iI (x5 + 1))), (13, .int (iI 1)), (12, .int (iI 1)), (11, .int (iI (v : Int))), (10, .int (iI (u : Int))), (9, .ref q), (8, .int (iI x8)), (7, .int (iI x7)), (4, .int (iI x4)), (3, .int (iI x3)), (2, .int (iI (T : Int))), (0, .ref b), (1, .ref a)]) rfl) ?_
  refine pe_go (pc := 574) rfl (s_iload rfl) ?_
  refine pe_go (pc := 576) rfl (s_iload rfl) ?_
  refine pe_go rfl (s_if_eq_f ⟨by decide, by decide⟩ (by decide)) ?_
  refine pe_go (pc := 581) rfl (s_iconst (z := 1) rfl) ?_
  refine pe_go (pc := 582) rfl s_goto ?_
  refine pe_go (pc := 586) rfl s_iadd ?_
  refine pe_go (pc := 587) rfl (s_istore (lv' := [(7, .int (iI (x7 + 1))), (6, .int (iI x6)), (5, .int (iI (x5 + 1))), (13, .int (iI 1)), (12, .int (iI 1)), (11, .int (iI (v : Int))), (10, .int (iI (u : Int))), (9, .ref q), (8, .int (iI x8)), (4, .int (iI x4)), (3, .int (iI x3)), (2, .int (iI (T : Int))), (0, .ref b), (1, .ref a)]) rfl) ?_
  refine pe_go (pc := 589) rfl (s_iload rfl) ?_
  refine pe_go rfl (s_if_le_f ⟨by decide, by decide⟩ (by decide)) ?_
  refine pe_go (pc := 594) rfl (s_iload rfl) ?_
  refine pe_go rfl (s_if_eq_f ⟨by decide, by decide⟩ (by decide)) ?_
  refine pe_go (pc := 599) rfl (s_aload_n rfl) ?_
  refine pe_go (pc := 600) rfl (s_iload rfl) ?_
  refine pe_go (pc := 602) rfl (s_iload rfl) ?_
  refine pe_call rfl (s_invV rfl (OB.obj hb hO) rfl rfl) (isEdge_y hb hO hu hv hn) ?_
  refine pe_go (pc := 607) rfl (s_iload rfl) ?_
  refine pe_go rfl (s_icmp_ne_f ⟨by decide, by decide⟩ ⟨by decide, by decide⟩ (by decide)) ?_
  refine pe_go (pc := 612) rfl (s_aload_n rfl) ?_
  refine pe_go (pc := 613) rfl (s_iload rfl) ?_
  refine pe_go (pc := 615) rfl (s_iload rfl) ?_
  refine pe_call rfl (s_invV rfl (OB.obj hb hO) rfl rfl) (isEdge_y hb hO hv hu hn2) ?_
  refine pe_go (pc := 620) rfl (s_iload rfl) ?_
  refine pe_go rfl (s_icmp_ne_f ⟨by decide, by decide⟩ ⟨by decide, by decide⟩ (by decide)) ?_
  refine pe_go (pc := 625) rfl (s_aload_n rfl) ?_
  refine pe_go (pc := 626) rfl (s_iload rfl) ?_
  refine pe_go (pc := 628) rfl (s_iload rfl) ?_
  refine pe_call rfl (s_invV rfl (OB.obj hb hO) rfl rfl) (isFixed_y hb hO hu hv hbo) ?_
  refine pe_go (pc := 633) rfl (s_iload rfl) ?_
  refine pe_go rfl (s_if_le_f ⟨by decide, by decide⟩ (by decide)) ?_
  refine pe_go (pc := 638) rfl (s_iconst (z := 1) rfl) ?_
  refine pe_go (pc := 639) rfl s_goto ?_
  refine pe_go rfl (s_icmp_ne_f ⟨by decide, by decide⟩ ⟨by decide, by decide⟩ (by decide)) ?_
  refine pe_go (pc := 646) rfl (s_iload rfl) ?_
  refine pe_go (pc := 648) rfl (s_iconst (z := 1) rfl) ?_
  refine pe_go rfl (s_icmp_le_t ⟨by decide, by decide⟩ ⟨by decide, by decide⟩ (by decide)) ?_
  refine pe_go (pc := 656) rfl (s_iconst (z := 0) rfl) ?_
  refine pe_go (pc := 657) rfl (s_iload rfl) ?_
  refine pe_go rfl (s_if_eq_f ⟨by decide, by decide⟩ (by decide)) ?_
  refine pe_go (pc := 662) rfl (s_aload rfl) ?_
  refine pe_go (pc := 664) rfl (s_iload rfl) ?_
  refine pe_go (pc := 666) rfl (s_aald hT9.1 (k := u) (by omega) (by omega) eu) ?_
  refine pe_go (pc := 667) rfl (s_iload rfl) ?_
  refine pe_go (pc := 669) rfl (s_iald (n := 40) (f := G u) (v := G u v) htu (k := v) (by omega) (by omega) (by decide) rfl) ?_
  refine pe_go (pc := 670) rfl (s_aload rfl) ?_
  refine pe_go (pc := 672) rfl (s_iload rfl) ?_
  refine pe_go (pc := 674) rfl (s_aald hT9.1 (k := v) (by omega) (by omega) ev) ?_
  refine pe_go (pc := 675) rfl (s_iload rfl) ?_
  refine pe_go (pc := 677) rfl (s_iald (n := 40) (f := G v) (v := G v u) htv (k := u) (by omega) (by omega) (by decide) rfl) ?_
  refine pe_go (pc := 678) rfl s_imul ?_
  refine pe_go rfl (s_if_ne_t ⟨by omega, by omega⟩ (by omega)) ?_
  refine pe_go (pc := 686) rfl (s_iconst (z := 0) rfl) ?_
  refine pe_go rfl (s_icmp_eq_t ⟨by decide, by decide⟩ ⟨by decide, by decide⟩ (by decide)) ?_
  refine pe_go (pc := 692) rfl (s_iload rfl) ?_
  refine pe_go rfl (s_if_eq_f ⟨by decide, by decide⟩ (by decide)) ?_
  refine pe_go (pc := 697) rfl (s_iload rfl) ?_
  refine pe_go (pc := 699) rfl (s_iconst (z := 1) rfl) ?_
  refine pe_go rfl (s_icmp_le_t ⟨by decide, by decide⟩ ⟨by decide, by decide⟩ (by decide)) ?_
  refine pe_few (lv := [(12, .int (iI 1)), (11, .int (iI (v : Int))), (10, .int (iI (u : Int))), (9, .ref q), (8, .int (iI x8)), (7, .int (iI (x7 + 1))), (6, .int (iI x6)), (5, .int (iI (x5 + 1))), (4, .int (iI x4)), (3, .int (iI x3)), (2, .int (iI (T : Int))), (0, .ref b), (1, .ref a)]) rfl rfl (by intro q hq; simp only [List.mem_cons, List.not_mem_nil, or_false] at hq; rcases hq with rfl | rfl | rfl | rfl | rfl | rfl | rfl | rfl | rfl | rfl | rfl | rfl | rfl <;> rfl) ?_
  exact KK
theorem l_pairD {w : pW} {pre post : pW} {b : Nat} (hb : pre.length = b) {S : St} {L M : List St} {K : St} (hO : OB pre post b S L M K w) {O Q : Nat → Prop} {a : Nat} {X : Sh} {pa fa ha : Nat} {pf gf hf : Nat → Option Nat} {ff : Nat → Nat} (hS : shP w O Q a X pa fa ha pf gf hf ff) {q : Nat} {tf : Nat → Option Nat} {tr : Nat → Nat} {G : Nat → Nat → Int} (hT9 : tabAt w q tf tr G) {x3 x4 x5 x6 x7 x8 : Int} {T : Nat} {Φ : Option Value → pW → Prop} {u v : Nat} (hu : u < 40) (huv : v < u) (hh : X.2.1 u v = 2) (hg : 0 ≤ G u v ∧ G u v ≤ 74 ∧ 0 ≤ G v u ∧ G v u ≤ 74) (hN : 0 < G u v + G v u ↔ S.nr u v) (hn : S.nr u v) (hbo : S.bound u v) (hpr : G u v * G v u = 0) (KK : qE 151 (942, [(11, .int (iI (v : Int))), (10, .int (iI (u : Int))), (9, .ref q), (8, .int (iI x8)), (7, .int (iI (x7 + 1))), (6, .int (iI (x6 + 1))), (5, .int (iI (x5 + 1))), (4, .int (iI x4)), (3, .int (iI x3)), (2, .int (iI (T : Int))), (0, .ref b), (1, .ref a)], [], w) Φ) : qE 151 (497, [(11, .int (iI (v : Int))), (10, .int (iI (u : Int))), (9, .ref q), (8, .int (iI x8)), (7, .int (iI x7)), (6, .int (iI x6)), (5, .int (iI x5)), (4, .int (iI x4)), (3, .int (iI x3)), (2, .int (iI (T : Int))), (0, .ref b), (1, .ref a)], [], w) Φ := by
  obtain ⟨hb9, h0, h1, h2, h3, h4, h5, h6, h7, h8, h9⟩ := hS
  obtain ⟨efu, -, hfu⟩ := h5 u hu
  have hv : v < 40 := by omega
  obtain ⟨eu, htu⟩ := hT9.2 u hu
  obtain ⟨ev, htv⟩ := hT9.2 v hv
  have hs := mul_b (x := G u v) (y := G v u) (a := 74) (b := 74) (by omega) (by omega) (by omega) (by omega)
  have hi : 0 < G u v + G v u := hN.mpr hn
  have hn2 := hO.1.nr_sym hu hv hn
  refine pe_go (pc := 497) rfl (s_iload rfl) ?_
  refine pe_go (pc := 499) rfl (s_iload rfl) ?_
  refine pe_go rfl (s_icmp_ge_f ⟨by omega, by omega⟩ ⟨by omega, by omega⟩ (by omega)) ?_
  refine pe_go (pc := 504) rfl (s_aload_n rfl) ?_
  refine pe_go (pc := 505) rfl (s_getf (v := .ref fa) h0 rfl) ?_
  refine pe_go (pc := 508) rfl (s_iload rfl) ?_
  refine pe_go (pc := 510) rfl (s_aald h4 (k := u) (by omega) (by omega) efu) ?_
  refine pe_go (pc := 511) rfl (s_iload rfl) ?_
  refine pe_go (pc := 513) rfl (s_iald (n := 40) (f := X.2.1 u) (v := 2) hfu (k := v) (by omega) (by omega) (by decide) hh) ?_
  refine pe_go (pc := 514) rfl (s_istore (lv' := [(12, .int (iI 2)), (11, .int (iI (v : Int))), (10, .int (iI (u : Int))), (9, .ref q), (8, .int (iI x8)), (7, .int (iI x7)), (6, .int (iI x6)), (5, .int (iI x5)), (4, .int (iI x4)), (3, .int (iI x3)), (2, .int (iI (T : Int))), (0, .ref b), (1, .ref a)]) rfl) ?_
  refine pe_go (pc := 516) rfl (s_aload rfl) ?_
  refine pe_go (pc := 518) rfl (s_iload rfl) ?_
  refine pe_go (pc := 520) rfl (s_aald hT9.1 (k := u) (by omega) (by omega) eu) ?_
  refine pe_go (pc := 521) rfl (s_iload rfl) ?_
  refine pe_go (pc := 523) rfl (s_iald (n := 40) (f := G u) (v := G u v) htu (k := v) (by omega) (by omega) (by decide) rfl) ?_
  refine pe_go (pc := 524) rfl (s_aload rfl) ?_
  refine pe_go (pc := 526) rfl (s_iload rfl) ?_
  refine pe_go (pc := 528) rfl (s_aald hT9.1 (k := v) (by omega) (by omega) ev) ?_
  refine pe_go (pc := 529) rfl (s_iload rfl) ?_
  refine pe_go (pc := 531) rfl (s_iald (n := 40) (f := G v) (v := G v u) htv (k := u) (by omega) (by omega) (by decide) rfl) ?_
  refine pe_go (pc := 532) rfl s_iadd ?_
  refine pe_go rfl (s_if_le_f ⟨by omega, by omega⟩ (by omega)) ?_
  refine pe_go (pc := 536) rfl (s_iconst (z := 1) rfl) ?_
  refine pe_go (pc := 537) rfl s_goto ?_
  refine pe_go (pc := 541) rfl (s_istore (lv' := [(13, .int (iI 1)), (12, .int (iI 2)), (11, .int (iI (v : Int))), (10, .int (iI (u : Int))), (9, .ref q), (8, .int (iI x8)), (7, .int (iI x7)), (6, .int (iI x6)), (5, .int (iI x5)), (4, .int (iI x4)), (3, .int (iI x3)), (2, .int (iI (T : Int))), (0, .ref b), (1, .ref a)]) rfl) ?_
  refine pe_go (pc := 543) rfl (s_iload rfl) ?_
  refine pe_go (pc := 545) rfl (s_iload rfl) ?_
  refine pe_go rfl (s_if_le_f ⟨by decide, by decide⟩ (by decide)) ?_
  refine pe_go (pc := 550) rfl (s_iconst (z := 1) rfl) ?_
  refine pe_go (pc := 551) rfl s_goto ?_
  refine pe_go (pc := 555) rfl s_iadd ?_
  refine pe_go (pc := 556) rfl (s_istore (lv' := [(5, .int (iI (x5 + 1))), (13, .int (iI 1)), (12, .int (iI 2)), (11, .int (iI (v : Int))), (10, .int (iI (u : Int))), (9, .ref q), (8, .int (iI x8)), (7, .int (iI x7)), (6, .int (iI x6)), (4, .int (iI x4)), (3, .int (iI x3)), (2, .int (iI (T : Int))), (0, .ref b), (1, .ref a)]) rfl) ?_
  refine pe_go (pc := 558) rfl (s_iload rfl) ?_
  refine pe_go (pc := 560) rfl (s_iload rfl) ?_
  refine pe_go (pc := 562) rfl (s_iconst (z := 1) rfl) ?_
  refine pe_go rfl (s_icmp_le_f ⟨by decide, by decide⟩ ⟨by decide, by decide⟩ (by decide)) ?_
  refine pe_go (pc := 566) rfl (s_iconst (z := 1) rfl) ?_
  refine pe_go (pc := 567) rfl s_goto ?_
  refine pe_go (pc := 571) rfl s_iadd ?_
  refine pe_go (pc := 572) rfl (s_istore (lv' := [(6, .int (iI (x6 + 1))), (5, .int (iI (x5 + 1))), (13, .int (iI 1)), (12, .int (iI 2)), (11, .int (iI (v : Int))), (10, .int (iI (u : Int))), (9, .ref q), (8, .int (iI x8)), (7, .int (iI x7)), (4, .int (iI x4)), (3, .int (iI x3)), (2, .int (iI (T : Int))), (0, .ref b), (1, .ref a)]) rfl) ?_
  refine pe_go (pc := 574) rfl (s_iload rfl) ?_
  refine pe_go (pc := 576) rfl (s_iload rfl) ?_
  refine pe_go rfl (s_if_eq_f ⟨by decide, by decide⟩ (by decide)) ?_
  refine pe_go (pc := 581) rfl (s_iconst (z := 1) rfl) ?_
  refine pe_go (pc := 582) rfl s_goto ?_
  refine pe_go (pc := 586) rfl s_iadd ?_
  refine pe_go (pc := 587) rfl (s_istore (lv' := [(7, .int (iI (x7 + 1))), (6, .int (iI (x6 + 1))), (5, .int (iI (x5 + 1))), (13, .int (iI 1)), (12, .int (iI 2)), (11, .int (iI (v : Int))), (10, .int (iI (u : Int))), (9, .ref q), (8, .int (iI x8)), (4, .int (iI x4)), (3, .int (iI x3)), (2, .int (iI (T : Int))), (0, .ref b), (1, .ref a)]) rfl) ?_
  refine pe_go (pc := 589) rfl (s_iload rfl) ?_
  refine pe_go rfl (s_if_le_f ⟨by decide, by decide⟩ (by decide)) ?_
  refine pe_go (pc := 594) rfl (s_iload rfl) ?_
  refine pe_go rfl (s_if_eq_f ⟨by decide, by decide⟩ (by decide)) ?_
  refine pe_go (pc := 599) rfl (s_aload_n rfl) ?_
  refine pe_go (pc := 600) rfl (s_iload rfl) ?_
  refine pe_go (pc := 602) rfl (s_iload rfl) ?_
  refine pe_call rfl (s_invV rfl (OB.obj hb hO) rfl rfl) (isEdge_y hb hO hu hv hn) ?_
  refine pe_go (pc := 607) rfl (s_iload rfl) ?_
  refine pe_go rfl (s_icmp_ne_f ⟨by decide, by decide⟩ ⟨by decide, by decide⟩ (by decide)) ?_
  refine pe_go (pc := 612) rfl (s_aload_n rfl) ?_
  refine pe_go (pc := 613) rfl (s_iload rfl) ?_
  refine pe_go (pc := 615) rfl (s_iload rfl) ?_
  refine pe_call rfl (s_invV rfl (OB.obj hb hO) rfl rfl) (isEdge_y hb hO hv hu hn2) ?_
  refine pe_go (pc := 620) rfl (s_iload rfl) ?_
  refine pe_go rfl (s_icmp_ne_f ⟨by decide, by decide⟩ ⟨by decide, by decide⟩ (by decide)) ?_
  refine pe_go (pc := 625) rfl (s_aload_n rfl) ?_
  refine pe_go (pc := 626) rfl (s_iload rfl) ?_
  refine pe_go (pc := 628) rfl (s_iload rfl) ?_
  refine pe_call rfl (s_invV rfl (OB.obj hb hO) rfl rfl) (isFixed_y hb hO hu hv hbo) ?_
  refine pe_go (pc := 633) rfl (s_iload rfl) ?_
  refine pe_go rfl (s_if_le_f ⟨by decide, by decide⟩ (by decide)) ?_
  refine pe_go (pc := 638) rfl (s_iconst (z := 1) rfl) ?_
  refine pe_go (pc := 639) rfl s_goto ?_
  refine pe_go rfl (s_icmp_ne_f ⟨by decide, by decide⟩ ⟨by decide, by decide⟩ (by decide)) ?_
  refine pe_go (pc := 646) rfl (s_iload rfl) ?_
  refine pe_go (pc := 648) rfl (s_iconst (z := 1) rfl) ?_
  refine pe_go rfl (s_icmp_le_f ⟨by decide, by decide⟩ ⟨by decide, by decide⟩ (by decide)) ?_
  refine pe_go (pc := 652) rfl (s_iconst (z := 1) rfl) ?_
  refine pe_go (pc := 653) rfl s_goto ?_
  refine pe_go (pc := 657) rfl (s_iload rfl) ?_
  refine pe_go rfl (s_if_eq_f ⟨by decide, by decide⟩ (by decide)) ?_
  refine pe_go (pc := 662) rfl (s_aload rfl) ?_
  refine pe_go (pc := 664) rfl (s_iload rfl) ?_
  refine pe_go (pc := 666) rfl (s_aald hT9.1 (k := u) (by omega) (by omega) eu) ?_
  refine pe_go (pc := 667) rfl (s_iload rfl) ?_
  refine pe_go (pc := 669) rfl (s_iald (n := 40) (f := G u) (v := G u v) htu (k := v) (by omega) (by omega) (by decide) rfl) ?_
  refine pe_go (pc := 670) rfl (s_aload rfl) ?_
  refine pe_go (pc := 672) rfl (s_iload rfl) ?_
  refine pe_go (pc := 674) rfl (s_aald hT9.1 (k := v) (by omega) (by omega) ev) ?_
  refine pe_go (pc := 675) rfl (s_iload rfl) ?_
  refine pe_go (pc := 677) rfl (s_iald (n := 40) (f := G v) (v := G v u) htv (k := u) (by omega) (by omega) (by decide) rfl) ?_
  refine pe_go (pc := 678) rfl s_imul ?_
  refine pe_go rfl (s_if_ne_f ⟨by omega, by omega⟩ (fun e => e hpr)) ?_
  refine pe_go (pc := 682) rfl (s_iconst (z := 1) rfl) ?_
  refine pe_go (pc := 683) rfl s_goto ?_
  refine pe_go rfl (s_icmp_eq_t ⟨by decide, by decide⟩ ⟨by decide, by decide⟩ (by decide)) ?_
  refine pe_go (pc := 692) rfl (s_iload rfl) ?_
  refine pe_go rfl (s_if_eq_f ⟨by decide, by decide⟩ (by decide)) ?_
  refine pe_go (pc := 697) rfl (s_iload rfl) ?_
  refine pe_go (pc := 699) rfl (s_iconst (z := 1) rfl) ?_
  refine pe_go rfl (s_icmp_le_f ⟨by decide, by decide⟩ ⟨by decide, by decide⟩ (by decide)) ?_
  refine pe_go (pc := 703) rfl s_goto ?_
  refine pe_few (lv := [(11, .int (iI (v : Int))), (10, .int (iI (u : Int))), (9, .ref q), (8, .int (iI x8)), (7, .int (iI (x7 + 1))), (6, .int (iI (x6 + 1))), (5, .int (iI (x5 + 1))), (4, .int (iI x4)), (3, .int (iI x3)), (2, .int (iI (T : Int))), (0, .ref b), (1, .ref a)]) rfl rfl (by intro q hq; simp only [List.mem_cons, List.not_mem_nil, or_false] at hq; rcases hq with rfl | rfl | rfl | rfl | rfl | rfl | rfl | rfl | rfl | rfl | rfl | rfl <;> rfl) ?_
  exact KK
theorem l_circ {w : pW} {pre post : pW} {b : Nat} (hb : pre.length = b) {S : St} {L M : List St} {K : St} (hO : OB pre post b S L M K w) {O Q : Nat → Prop} {a : Nat} {X : Sh} {pa fa ha : Nat} {pf gf hf : Nat → Option Nat} {ff : Nat → Nat} (hS : shP w O Q a X pa fa ha pf gf hf ff) {q : Nat} {tf : Nat → Option Nat} {tr : Nat → Nat} {G : Nat → Nat → Int} (hT9 : tabAt w q tf tr G) {x3 x4 x5 x6 x7 x8 h : Int} {T : Nat} {Φ : Option Value → pW → Prop} (hT : S.tn = (T : Int)) (hT2 : T ≤ 74) {u v r s : Nat} (hu : u < 40) (hv : v < 40) (hr : r < 40) (hs : s < 40) (su : S.has u) (sv : S.has v) (sr : S.has r) (ss : S.has s) (hR : Rel S X) {i j a0 b0 c0 a1 b1 c1 : Nat} (hi : G u v = (i : Int) + 1) (hj : G v u = (j : Int) + 1) (hiT : i < T) (hjT : j < T) (k1 : S.tri3 i a0 b0 c0) (k2 : S.tri3 j a1 b1 c1) (e1 : a0 + b0 + c0 = u + v + r) (e2 : a1 + b1 + c1 = v + u + s) (KK : ∀ (l w' : pW), w' = w ++ l → l.length = 5 → pwsz l = 15 → qE 151 (825, [(18, .long (lI (S.lin u v r s))), (17, .int (iI (s : Int))), (16, .int (iI (r : Int))), (12, .int (iI h)), (11, .int (iI (v : Int))), (10, .int (iI (u : Int))), (9, .ref q), (8, .int (iI x8)), (7, .int (iI x7)), (6, .int (iI x6)), (5, .int (iI x5)), (4, .int (iI x4)), (3, .int (iI x3)), (2, .int (iI (T : Int))), (0, .ref b), (1, .ref a)], [], w') Φ) : qE 151 (706, [(12, .int (iI h)), (11, .int (iI (v : Int))), (10, .int (iI (u : Int))), (9, .ref q), (8, .int (iI x8)), (7, .int (iI x7)), (6, .int (iI x6)), (5, .int (iI x5)), (4, .int (iI x4)), (3, .int (iI x3)), (2, .int (iI (T : Int))), (0, .ref b), (1, .ref a)], [], w) Φ := by
  obtain ⟨hb9, h0, h1, h2, h3, h4, h5, h6, h7, h8, h9⟩ := hS
  obtain ⟨ru, eru, -, hru⟩ := h3 u _ _ _ hu (hR.pt hu su)
  have bu := hO.1.B u hu
  obtain ⟨rv, erv, -, hrv⟩ := h3 v _ _ _ hv (hR.pt hv sv)
  have bv := hO.1.B v hv
  obtain ⟨rr, err, -, hrr⟩ := h3 r _ _ _ hr (hR.pt hr sr)
  have br := hO.1.B r hr
  obtain ⟨rs, ers, -, hrs⟩ := h3 s _ _ _ hs (hR.pt hs ss)
  have bs := hO.1.B s hs
  obtain ⟨eu, htu⟩ := hT9.2 u hu
  obtain ⟨ev, htv⟩ := hT9.2 v hv
  refine pe_go (pc := 706) rfl (s_aload rfl) ?_
  refine pe_go (pc := 708) rfl (s_iload rfl) ?_
  refine pe_go (pc := 710) rfl (s_aald hT9.1 (k := u) (by omega) (by omega) eu) ?_
  refine pe_go (pc := 711) rfl (s_iload rfl) ?_
  refine pe_go (pc := 713) rfl (s_iald (n := 40) (f := G u) (v := G u v) htu (k := v) (by omega) (by omega) (by decide) rfl) ?_
  refine pe_go (pc := 714) rfl (s_iconst (z := 1) rfl) ?_
  refine pe_go (pc := 715) rfl s_isub ?_
  rw [show G u v - 1 = (i : Int) by omega]
  refine pe_go (pc := 716) rfl (s_istore (lv' := [(14, .int (iI (i : Int))), (12, .int (iI h)), (11, .int (iI (v : Int))), (10, .int (iI (u : Int))), (9, .ref q), (8, .int (iI x8)), (7, .int (iI x7)), (6, .int (iI x6)), (5, .int (iI x5)), (4, .int (iI x4)), (3, .int (iI x3)), (2, .int (iI (T : Int))), (0, .ref b), (1, .ref a)]) rfl) ?_
  refine pe_go (pc := 718) rfl (s_aload rfl) ?_
  refine pe_go (pc := 720) rfl (s_iload rfl) ?_
  refine pe_go (pc := 722) rfl (s_aald hT9.1 (k := v) (by omega) (by omega) ev) ?_
  refine pe_go (pc := 723) rfl (s_iload rfl) ?_
  refine pe_go (pc := 725) rfl (s_iald (n := 40) (f := G v) (v := G v u) htv (k := u) (by omega) (by omega) (by decide) rfl) ?_
  refine pe_go (pc := 726) rfl (s_iconst (z := 1) rfl) ?_
  refine pe_go (pc := 727) rfl s_isub ?_
  rw [show G v u - 1 = (j : Int) by omega]
  refine pe_go (pc := 728) rfl (s_istore (lv' := [(15, .int (iI (j : Int))), (14, .int (iI (i : Int))), (12, .int (iI h)), (11, .int (iI (v : Int))), (10, .int (iI (u : Int))), (9, .ref q), (8, .int (iI x8)), (7, .int (iI x7)), (6, .int (iI x6)), (5, .int (iI x5)), (4, .int (iI x4)), (3, .int (iI x3)), (2, .int (iI (T : Int))), (0, .ref b), (1, .ref a)]) rfl) ?_
  refine pe_go (pc := 730) rfl (s_aload_n rfl) ?_
  refine pe_go (pc := 731) rfl (s_iload rfl) ?_
  refine pe_go (pc := 733) rfl (s_iconst (z := 0) rfl) ?_
  refine pe_call rfl (s_invV rfl (OB.obj hb hO) rfl rfl) (corner_at hb hO hT hT2 (t := i) (k := 0) hiT (by decide) k1.2.2.1.1) ?_
  refine pe_go (pc := 737) rfl (s_aload_n rfl) ?_
  refine pe_go (pc := 738) rfl (s_iload rfl) ?_
  refine pe_go (pc := 740) rfl (s_iconst (z := 1) rfl) ?_
  refine pe_call rfl (s_invV rfl (OB.obj hb hO) rfl rfl) (corner_at hb hO hT hT2 (t := i) (k := 1) hiT (by decide) k1.2.2.1.2.1) ?_
  refine pe_go (pc := 744) rfl s_iadd ?_
  refine pe_go (pc := 745) rfl (s_aload_n rfl) ?_
  refine pe_go (pc := 746) rfl (s_iload rfl) ?_
  refine pe_go (pc := 748) rfl (s_iconst (z := 2) rfl) ?_
  refine pe_call rfl (s_invV rfl (OB.obj hb hO) rfl rfl) (corner_at hb hO hT hT2 (t := i) (k := 2) hiT (by decide) k1.2.2.1.2.2) ?_
  refine pe_go (pc := 752) rfl s_iadd ?_
  refine pe_go (pc := 753) rfl (s_iload rfl) ?_
  refine pe_go (pc := 755) rfl s_isub ?_
  refine pe_go (pc := 756) rfl (s_iload rfl) ?_
  refine pe_go (pc := 758) rfl s_isub ?_
  rw [show ((((a0 : Int) + (b0 : Int)) + (c0 : Int)) - (u : Int)) - (v : Int) = (r : Int) by omega]
  refine pe_go (pc := 759) rfl (s_istore (lv' := [(16, .int (iI (r : Int))), (15, .int (iI (j : Int))), (14, .int (iI (i : Int))), (12, .int (iI h)), (11, .int (iI (v : Int))), (10, .int (iI (u : Int))), (9, .ref q), (8, .int (iI x8)), (7, .int (iI x7)), (6, .int (iI x6)), (5, .int (iI x5)), (4, .int (iI x4)), (3, .int (iI x3)), (2, .int (iI (T : Int))), (0, .ref b), (1, .ref a)]) rfl) ?_
  refine pe_go (pc := 761) rfl (s_aload_n rfl) ?_
  refine pe_go (pc := 762) rfl (s_iload rfl) ?_
  refine pe_go (pc := 764) rfl (s_iconst (z := 0) rfl) ?_
  refine pe_call rfl (s_invV rfl (OB.obj hb hO) rfl rfl) (corner_at hb hO hT hT2 (t := j) (k := 0) hjT (by decide) k2.2.2.1.1) ?_
  refine pe_go (pc := 768) rfl (s_aload_n rfl) ?_
  refine pe_go (pc := 769) rfl (s_iload rfl) ?_
  refine pe_go (pc := 771) rfl (s_iconst (z := 1) rfl) ?_
  refine pe_call rfl (s_invV rfl (OB.obj hb hO) rfl rfl) (corner_at hb hO hT hT2 (t := j) (k := 1) hjT (by decide) k2.2.2.1.2.1) ?_
  refine pe_go (pc := 775) rfl s_iadd ?_
  refine pe_go (pc := 776) rfl (s_aload_n rfl) ?_
  refine pe_go (pc := 777) rfl (s_iload rfl) ?_
  refine pe_go (pc := 779) rfl (s_iconst (z := 2) rfl) ?_
  refine pe_call rfl (s_invV rfl (OB.obj hb hO) rfl rfl) (corner_at hb hO hT hT2 (t := j) (k := 2) hjT (by decide) k2.2.2.1.2.2) ?_
  refine pe_go (pc := 783) rfl s_iadd ?_
  refine pe_go (pc := 784) rfl (s_iload rfl) ?_
  refine pe_go (pc := 786) rfl s_isub ?_
  refine pe_go (pc := 787) rfl (s_iload rfl) ?_
  refine pe_go (pc := 789) rfl s_isub ?_
  rw [show ((((a1 : Int) + (b1 : Int)) + (c1 : Int)) - (u : Int)) - (v : Int) = (s : Int) by omega]
  refine pe_go (pc := 790) rfl (s_istore (lv' := [(17, .int (iI (s : Int))), (16, .int (iI (r : Int))), (15, .int (iI (j : Int))), (14, .int (iI (i : Int))), (12, .int (iI h)), (11, .int (iI (v : Int))), (10, .int (iI (u : Int))), (9, .ref q), (8, .int (iI x8)), (7, .int (iI x7)), (6, .int (iI x6)), (5, .int (iI x5)), (4, .int (iI x4)), (3, .int (iI x3)), (2, .int (iI (T : Int))), (0, .ref b), (1, .ref a)]) rfl) ?_
  refine pe_go (pc := 792) rfl (s_aload_n rfl) ?_
  refine pe_go (pc := 793) rfl (s_getf (v := .ref pa) h0 rfl) ?_
  refine pe_go (pc := 796) rfl (s_iload rfl) ?_
  refine pe_go (pc := 798) rfl (s_aald h1 (k := u) (by omega) (by omega) eru) ?_
  refine pe_go (pc := 799) rfl (s_aload_n rfl) ?_
  refine pe_go (pc := 800) rfl (s_getf (v := .ref pa) h0 rfl) ?_
  refine pe_go (pc := 803) rfl (s_iload rfl) ?_
  refine pe_go (pc := 805) rfl (s_aald h1 (k := v) (by omega) (by omega) erv) ?_
  refine pe_go (pc := 806) rfl (s_aload_n rfl) ?_
  refine pe_go (pc := 807) rfl (s_getf (v := .ref pa) h0 rfl) ?_
  refine pe_go (pc := 810) rfl (s_iload rfl) ?_
  refine pe_go (pc := 812) rfl (s_aald h1 (k := r) (by omega) (by omega) err) ?_
  refine pe_go (pc := 813) rfl (s_aload_n rfl) ?_
  refine pe_go (pc := 814) rfl (s_getf (v := .ref pa) h0 rfl) ?_
  refine pe_go (pc := 817) rfl (s_iload rfl) ?_
  refine pe_go (pc := 819) rfl (s_aald h1 (k := s) (by omega) (by omega) ers) ?_
  refine pe_callE rfl (s_invS rfl rfl rfl) (w_inside rfl hru ⟨by omega, by omega⟩ ⟨by omega, by omega⟩ hrv ⟨by omega, by omega⟩ ⟨by omega, by omega⟩ hrr ⟨by omega, by omega⟩ ⟨by omega, by omega⟩ hrs ⟨by omega, by omega⟩ ⟨by omega, by omega⟩) ?_
  rintro _ w1 ⟨rfl, l1, ew1, hl1, hz1⟩
  rw [St.inD_lin]
  refine pe_go (pc := 823) rfl (s_lstore (lv' := [(18, .long (lI (S.lin u v r s))), (17, .int (iI (s : Int))), (16, .int (iI (r : Int))), (15, .int (iI (j : Int))), (14, .int (iI (i : Int))), (12, .int (iI h)), (11, .int (iI (v : Int))), (10, .int (iI (u : Int))), (9, .ref q), (8, .int (iI x8)), (7, .int (iI x7)), (6, .int (iI x6)), (5, .int (iI x5)), (4, .int (iI x4)), (3, .int (iI x3)), (2, .int (iI (T : Int))), (0, .ref b), (1, .ref a)]) rfl) ?_
  refine pe_few (lv := [(18, .long (lI (S.lin u v r s))), (17, .int (iI (s : Int))), (16, .int (iI (r : Int))), (12, .int (iI h)), (11, .int (iI (v : Int))), (10, .int (iI (u : Int))), (9, .ref q), (8, .int (iI x8)), (7, .int (iI x7)), (6, .int (iI x6)), (5, .int (iI x5)), (4, .int (iI x4)), (3, .int (iI x3)), (2, .int (iI (T : Int))), (0, .ref b), (1, .ref a)]) rfl rfl (by intro q hq; simp only [List.mem_cons, List.not_mem_nil, or_false] at hq; rcases hq with rfl | rfl | rfl | rfl | rfl | rfl | rfl | rfl | rfl | rfl | rfl | rfl | rfl | rfl | rfl | rfl <;> rfl) ?_
  exact KK _ _ ew1 hl1 hz1
theorem l_bad0u {w : pW} {pre post : pW} {b : Nat} (hb : pre.length = b) {S : St} {L M : List St} {K : St} (hO : OB pre post b S L M K w) {O Q : Nat → Prop} {a : Nat} {X : Sh} {pa fa ha : Nat} {pf gf hf : Nat → Option Nat} {ff : Nat → Nat} (hS : shP w O Q a X pa fa ha pf gf hf ff) {q : Nat} {x3 x4 x5 x6 x7 x8 : Int} {T : Nat} {Φ : Option Value → pW → Prop} {u v r s : Nat} (hu : u < 40) (hv : v < 40) (hr : r < 40) (hs : s < 40) (su : S.has u) (sv : S.has v) (sr : S.has r) (ss : S.has s) (hR : Rel S X) (hf : S.ahd u v) (hN : ¬ (0 < S.lin u v r s ∨ (S.lin u v r s = 0 ∧ (S.ahd r u ∨ S.ahd s u)))) (KK1 : (0 < S.lin u v r s ∨ (S.lin u v r s = 0 ∧ (S.ahd r u ∨ S.ahd s u))) → qE 151 (942, [(11, .int (iI (v : Int))), (10, .int (iI (u : Int))), (9, .ref q), (8, .int (iI (x8 + 1))), (7, .int (iI x7)), (6, .int (iI x6)), (5, .int (iI x5)), (4, .int (iI x4)), (3, .int (iI x3)), (2, .int (iI (T : Int))), (0, .ref b), (1, .ref a)], [], w) Φ) (KK0 : ¬ (0 < S.lin u v r s ∨ (S.lin u v r s = 0 ∧ (S.ahd r u ∨ S.ahd s u))) → qE 151 (942, [(11, .int (iI (v : Int))), (10, .int (iI (u : Int))), (9, .ref q), (8, .int (iI x8)), (7, .int (iI x7)), (6, .int (iI x6)), (5, .int (iI x5)), (4, .int (iI x4)), (3, .int (iI x3)), (2, .int (iI (T : Int))), (0, .ref b), (1, .ref a)], [], w) Φ) : qE 151 (825, [(18, .long (lI (S.lin u v r s))), (17, .int (iI (s : Int))), (16, .int (iI (r : Int))), (12, .int (iI 0)), (11, .int (iI (v : Int))), (10, .int (iI (u : Int))), (9, .ref q), (8, .int (iI x8)), (7, .int (iI x7)), (6, .int (iI x6)), (5, .int (iI x5)), (4, .int (iI x4)), (3, .int (iI x3)), (2, .int (iI (T : Int))), (0, .ref b), (1, .ref a)], [], w) Φ := by
  obtain ⟨hb9, h0, h1, h2, h3, h4, h5, h6, h7, h8, h9⟩ := hS
  obtain ⟨ru, eru, -, hru⟩ := h3 u _ _ _ hu (hR.pt hu su)
  have bu := hO.1.B u hu
  obtain ⟨rv, erv, -, hrv⟩ := h3 v _ _ _ hv (hR.pt hv sv)
  have bv := hO.1.B v hv
  obtain ⟨rr, err, -, hrr⟩ := h3 r _ _ _ hr (hR.pt hr sr)
  have br := hO.1.B r hr
  obtain ⟨rs, ers, -, hrs⟩ := h3 s _ _ _ hs (hR.pt hs ss)
  have bs := hO.1.B s hs
  have hD := hO.1.lin_b hu hv hr hs
  rcases Int.lt_trichotomy (S.lin u v r s) 0 with hc | hc | hc
  · skip
    refine pe_go (pc := 825) rfl (s_aload_n rfl) ?_
    refine pe_go (pc := 826) rfl (s_getf (v := .ref pa) h0 rfl) ?_
    refine pe_go (pc := 829) rfl (s_iload rfl) ?_
    refine pe_go (pc := 831) rfl (s_aald h1 (k := u) (by omega) (by omega) eru) ?_
    refine pe_go (pc := 832) rfl (s_aload_n rfl) ?_
    refine pe_go (pc := 833) rfl (s_getf (v := .ref pa) h0 rfl) ?_
    refine pe_go (pc := 836) rfl (s_iload rfl) ?_
    refine pe_go (pc := 838) rfl (s_aald h1 (k := v) (by omega) (by omega) erv) ?_
    refine pe_call rfl (s_invS rfl rfl rfl) (w_ahead hru hrv (hO.1.sq hu) (hO.1.sq hv)) ?_
    refine pe_go rfl (s_ifeq_true (decide_eq_true hf)) ?_
    refine pe_go (pc := 845) rfl (s_aload_n rfl) ?_
    refine pe_go (pc := 846) rfl (s_getf (v := .ref pa) h0 rfl) ?_
    refine pe_go (pc := 849) rfl (s_iload rfl) ?_
    refine pe_go (pc := 851) rfl (s_aald h1 (k := u) (by omega) (by omega) eru) ?_
    refine pe_go (pc := 852) rfl s_goto ?_
    refine pe_go (pc := 862) rfl (s_astore (lv' := [(20, .ref ru), (18, .long (lI (S.lin u v r s))), (17, .int (iI (s : Int))), (16, .int (iI (r : Int))), (12, .int (iI 0)), (11, .int (iI (v : Int))), (10, .int (iI (u : Int))), (9, .ref q), (8, .int (iI x8)), (7, .int (iI x7)), (6, .int (iI x6)), (5, .int (iI x5)), (4, .int (iI x4)), (3, .int (iI x3)), (2, .int (iI (T : Int))), (0, .ref b), (1, .ref a)]) rfl) ?_
    refine pe_go (pc := 864) rfl (s_lload rfl) ?_
    refine pe_go (pc := 866) rfl s_lconst0 ?_
    refine pe_go rfl (s_lcmp_lt ⟨by omega, by omega⟩ ⟨by omega, by omega⟩ hc) ?_
    refine pe_go rfl (s_if_gt_f ⟨by decide, by decide⟩ (by decide)) ?_
    refine pe_go (pc := 871) rfl (s_lload rfl) ?_
    refine pe_go (pc := 873) rfl s_lconst0 ?_
    refine pe_go rfl (s_lcmp_lt ⟨by omega, by omega⟩ ⟨by omega, by omega⟩ hc) ?_
    refine pe_go rfl (s_if_ne_t ⟨by decide, by decide⟩ (by decide)) ?_
    refine pe_go (pc := 912) rfl (s_iconst (z := 0) rfl) ?_
    refine pe_go (pc := 913) rfl (s_istore (lv' := [(21, .int (iI 0)), (20, .ref ru), (18, .long (lI (S.lin u v r s))), (17, .int (iI (s : Int))), (16, .int (iI (r : Int))), (12, .int (iI 0)), (11, .int (iI (v : Int))), (10, .int (iI (u : Int))), (9, .ref q), (8, .int (iI x8)), (7, .int (iI x7)), (6, .int (iI x6)), (5, .int (iI x5)), (4, .int (iI x4)), (3, .int (iI x3)), (2, .int (iI (T : Int))), (0, .ref b), (1, .ref a)]) rfl) ?_
    refine pe_go (pc := 915) rfl (s_iload rfl) ?_
    refine pe_go rfl (s_if_eq_t ⟨by decide, by decide⟩ (by decide)) ?_
    refine pe_go (pc := 927) rfl (s_iload rfl) ?_
    refine pe_go (pc := 929) rfl (s_iload rfl) ?_
    refine pe_go rfl (s_if_eq_t ⟨by decide, by decide⟩ (by decide)) ?_
    refine pe_go (pc := 938) rfl (s_iconst (z := 0) rfl) ?_
    refine pe_go (pc := 939) rfl s_iadd0 ?_
    refine pe_go (pc := 940) rfl (s_istore (lv' := [(8, .int (iI x8)), (21, .int (iI 0)), (20, .ref ru), (18, .long (lI (S.lin u v r s))), (17, .int (iI (s : Int))), (16, .int (iI (r : Int))), (12, .int (iI 0)), (11, .int (iI (v : Int))), (10, .int (iI (u : Int))), (9, .ref q), (7, .int (iI x7)), (6, .int (iI x6)), (5, .int (iI x5)), (4, .int (iI x4)), (3, .int (iI x3)), (2, .int (iI (T : Int))), (0, .ref b), (1, .ref a)]) rfl) ?_
    refine pe_few (lv := [(11, .int (iI (v : Int))), (10, .int (iI (u : Int))), (9, .ref q), (8, .int (iI x8)), (7, .int (iI x7)), (6, .int (iI x6)), (5, .int (iI x5)), (4, .int (iI x4)), (3, .int (iI x3)), (2, .int (iI (T : Int))), (0, .ref b), (1, .ref a)]) rfl rfl (by intro q hq; simp only [List.mem_cons, List.not_mem_nil, or_false] at hq; rcases hq with rfl | rfl | rfl | rfl | rfl | rfl | rfl | rfl | rfl | rfl | rfl | rfl <;> rfl) ?_
    exact KK0 (by rintro (z | ⟨z1, z2 | z2⟩) <;> first | omega | exact absurd z2 (by assumption))
  · skip
    refine pe_go (pc := 825) rfl (s_aload_n rfl) ?_
    refine pe_go (pc := 826) rfl (s_getf (v := .ref pa) h0 rfl) ?_
    refine pe_go (pc := 829) rfl (s_iload rfl) ?_
    refine pe_go (pc := 831) rfl (s_aald h1 (k := u) (by omega) (by omega) eru) ?_
    refine pe_go (pc := 832) rfl (s_aload_n rfl) ?_
    refine pe_go (pc := 833) rfl (s_getf (v := .ref pa) h0 rfl) ?_
    refine pe_go (pc := 836) rfl (s_iload rfl) ?_
    refine pe_go (pc := 838) rfl (s_aald h1 (k := v) (by omega) (by omega) erv) ?_
    refine pe_call rfl (s_invS rfl rfl rfl) (w_ahead hru hrv (hO.1.sq hu) (hO.1.sq hv)) ?_
    refine pe_go rfl (s_ifeq_true (decide_eq_true hf)) ?_
    refine pe_go (pc := 845) rfl (s_aload_n rfl) ?_
    refine pe_go (pc := 846) rfl (s_getf (v := .ref pa) h0 rfl) ?_
    refine pe_go (pc := 849) rfl (s_iload rfl) ?_
    refine pe_go (pc := 851) rfl (s_aald h1 (k := u) (by omega) (by omega) eru) ?_
    refine pe_go (pc := 852) rfl s_goto ?_
    refine pe_go (pc := 862) rfl (s_astore (lv' := [(20, .ref ru), (18, .long (lI (S.lin u v r s))), (17, .int (iI (s : Int))), (16, .int (iI (r : Int))), (12, .int (iI 0)), (11, .int (iI (v : Int))), (10, .int (iI (u : Int))), (9, .ref q), (8, .int (iI x8)), (7, .int (iI x7)), (6, .int (iI x6)), (5, .int (iI x5)), (4, .int (iI x4)), (3, .int (iI x3)), (2, .int (iI (T : Int))), (0, .ref b), (1, .ref a)]) rfl) ?_
    refine pe_go (pc := 864) rfl (s_lload rfl) ?_
    refine pe_go (pc := 866) rfl s_lconst0 ?_
    refine pe_go rfl (s_lcmp_eq hc) ?_
    refine pe_go rfl (s_if_gt_f ⟨by decide, by decide⟩ (by decide)) ?_
    refine pe_go (pc := 871) rfl (s_lload rfl) ?_
    refine pe_go (pc := 873) rfl s_lconst0 ?_
    refine pe_go rfl (s_lcmp_eq hc) ?_
    refine pe_go rfl (s_if_ne_f ⟨by decide, by decide⟩ (by decide)) ?_
    refine pe_go (pc := 878) rfl (s_aload_n rfl) ?_
    refine pe_go (pc := 879) rfl (s_getf (v := .ref pa) h0 rfl) ?_
    refine pe_go (pc := 882) rfl (s_iload rfl) ?_
    refine pe_go (pc := 884) rfl (s_aald h1 (k := r) (by omega) (by omega) err) ?_
    refine pe_go (pc := 885) rfl (s_aload rfl) ?_
    refine pe_call rfl (s_invS rfl rfl rfl) (w_ahead hrr hru (hO.1.sq hr) (hO.1.sq hu)) ?_
    by_cases b1 : S.ahd r u
    · skip
      refine pe_go rfl (s_ifne_true (decide_eq_true b1)) ?_
      refine pe_go (pc := 908) rfl (s_iconst (z := 1) rfl) ?_
      refine pe_go (pc := 909) rfl s_goto ?_
      refine pe_go (pc := 913) rfl (s_istore (lv' := [(21, .int (iI 1)), (20, .ref ru), (18, .long (lI (S.lin u v r s))), (17, .int (iI (s : Int))), (16, .int (iI (r : Int))), (12, .int (iI 0)), (11, .int (iI (v : Int))), (10, .int (iI (u : Int))), (9, .ref q), (8, .int (iI x8)), (7, .int (iI x7)), (6, .int (iI x6)), (5, .int (iI x5)), (4, .int (iI x4)), (3, .int (iI x3)), (2, .int (iI (T : Int))), (0, .ref b), (1, .ref a)]) rfl) ?_
      refine pe_go (pc := 915) rfl (s_iload rfl) ?_
      refine pe_go rfl (s_if_eq_f ⟨by decide, by decide⟩ (by decide)) ?_
      refine pe_go (pc := 920) rfl (s_iload rfl) ?_
      refine pe_go rfl (s_if_ne_t ⟨by decide, by decide⟩ (by exfalso; exact hN (Or.inr ⟨hc, by first | exact Or.inl (by assumption) | exact Or.inr (by assumption)⟩))) ?_
      refine pe_go (pc := 927) rfl (s_iload rfl) ?_
      refine pe_go (pc := 929) rfl (s_iload rfl) ?_
      refine pe_go rfl (s_if_eq_f ⟨by decide, by decide⟩ (by decide)) ?_
      refine pe_go (pc := 934) rfl (s_iconst (z := 1) rfl) ?_
      refine pe_go (pc := 935) rfl s_goto ?_
      refine pe_go (pc := 939) rfl s_iadd ?_
      refine pe_go (pc := 940) rfl (s_istore (lv' := [(8, .int (iI (x8 + 1))), (21, .int (iI 1)), (20, .ref ru), (18, .long (lI (S.lin u v r s))), (17, .int (iI (s : Int))), (16, .int (iI (r : Int))), (12, .int (iI 0)), (11, .int (iI (v : Int))), (10, .int (iI (u : Int))), (9, .ref q), (7, .int (iI x7)), (6, .int (iI x6)), (5, .int (iI x5)), (4, .int (iI x4)), (3, .int (iI x3)), (2, .int (iI (T : Int))), (0, .ref b), (1, .ref a)]) rfl) ?_
      refine pe_few (lv := [(11, .int (iI (v : Int))), (10, .int (iI (u : Int))), (9, .ref q), (8, .int (iI (x8 + 1))), (7, .int (iI x7)), (6, .int (iI x6)), (5, .int (iI x5)), (4, .int (iI x4)), (3, .int (iI x3)), (2, .int (iI (T : Int))), (0, .ref b), (1, .ref a)]) rfl rfl (by intro q hq; simp only [List.mem_cons, List.not_mem_nil, or_false] at hq; rcases hq with rfl | rfl | rfl | rfl | rfl | rfl | rfl | rfl | rfl | rfl | rfl | rfl <;> rfl) ?_
      exact KK1 (Or.inr ⟨hc, by first | exact Or.inl (by assumption) | exact Or.inr (by assumption)⟩)
    · skip
      refine pe_go rfl (s_ifne_false (decide_eq_false b1)) ?_
      refine pe_go (pc := 893) rfl (s_aload_n rfl) ?_
      refine pe_go (pc := 894) rfl (s_getf (v := .ref pa) h0 rfl) ?_
      refine pe_go (pc := 897) rfl (s_iload rfl) ?_
      refine pe_go (pc := 899) rfl (s_aald h1 (k := s) (by omega) (by omega) ers) ?_
      refine pe_go (pc := 900) rfl (s_aload rfl) ?_
      refine pe_call rfl (s_invS rfl rfl rfl) (w_ahead hrs hru (hO.1.sq hs) (hO.1.sq hu)) ?_
      by_cases b2 : S.ahd s u
      · skip
        refine pe_go rfl (s_ifeq_true (decide_eq_true b2)) ?_
        refine pe_go (pc := 908) rfl (s_iconst (z := 1) rfl) ?_
        refine pe_go (pc := 909) rfl s_goto ?_
        refine pe_go (pc := 913) rfl (s_istore (lv' := [(21, .int (iI 1)), (20, .ref ru), (18, .long (lI (S.lin u v r s))), (17, .int (iI (s : Int))), (16, .int (iI (r : Int))), (12, .int (iI 0)), (11, .int (iI (v : Int))), (10, .int (iI (u : Int))), (9, .ref q), (8, .int (iI x8)), (7, .int (iI x7)), (6, .int (iI x6)), (5, .int (iI x5)), (4, .int (iI x4)), (3, .int (iI x3)), (2, .int (iI (T : Int))), (0, .ref b), (1, .ref a)]) rfl) ?_
        refine pe_go (pc := 915) rfl (s_iload rfl) ?_
        refine pe_go rfl (s_if_eq_f ⟨by decide, by decide⟩ (by decide)) ?_
        refine pe_go (pc := 920) rfl (s_iload rfl) ?_
        refine pe_go rfl (s_if_ne_t ⟨by decide, by decide⟩ (by exfalso; exact hN (Or.inr ⟨hc, by first | exact Or.inl (by assumption) | exact Or.inr (by assumption)⟩))) ?_
        refine pe_go (pc := 927) rfl (s_iload rfl) ?_
        refine pe_go (pc := 929) rfl (s_iload rfl) ?_
        refine pe_go rfl (s_if_eq_f ⟨by decide, by decide⟩ (by decide)) ?_
        refine pe_go (pc := 934) rfl (s_iconst (z := 1) rfl) ?_
        refine pe_go (pc := 935) rfl s_goto ?_
        refine pe_go (pc := 939) rfl s_iadd ?_
        refine pe_go (pc := 940) rfl (s_istore (lv' := [(8, .int (iI (x8 + 1))), (21, .int (iI 1)), (20, .ref ru), (18, .long (lI (S.lin u v r s))), (17, .int (iI (s : Int))), (16, .int (iI (r : Int))), (12, .int (iI 0)), (11, .int (iI (v : Int))), (10, .int (iI (u : Int))), (9, .ref q), (7, .int (iI x7)), (6, .int (iI x6)), (5, .int (iI x5)), (4, .int (iI x4)), (3, .int (iI x3)), (2, .int (iI (T : Int))), (0, .ref b), (1, .ref a)]) rfl) ?_
        refine pe_few (lv := [(11, .int (iI (v : Int))), (10, .int (iI (u : Int))), (9, .ref q), (8, .int (iI (x8 + 1))), (7, .int (iI x7)), (6, .int (iI x6)), (5, .int (iI x5)), (4, .int (iI x4)), (3, .int (iI x3)), (2, .int (iI (T : Int))), (0, .ref b), (1, .ref a)]) rfl rfl (by intro q hq; simp only [List.mem_cons, List.not_mem_nil, or_false] at hq; rcases hq with rfl | rfl | rfl | rfl | rfl | rfl | rfl | rfl | rfl | rfl | rfl | rfl <;> rfl) ?_
        exact KK1 (Or.inr ⟨hc, by first | exact Or.inl (by assumption) | exact Or.inr (by assumption)⟩)
      · skip
        refine pe_go rfl (s_ifeq_false (decide_eq_false b2)) ?_
        refine pe_go (pc := 912) rfl (s_iconst (z := 0) rfl) ?_
        refine pe_go (pc := 913) rfl (s_istore (lv' := [(21, .int (iI 0)), (20, .ref ru), (18, .long (lI (S.lin u v r s))), (17, .int (iI (s : Int))), (16, .int (iI (r : Int))), (12, .int (iI 0)), (11, .int (iI (v : Int))), (10, .int (iI (u : Int))), (9, .ref q), (8, .int (iI x8)), (7, .int (iI x7)), (6, .int (iI x6)), (5, .int (iI x5)), (4, .int (iI x4)), (3, .int (iI x3)), (2, .int (iI (T : Int))), (0, .ref b), (1, .ref a)]) rfl) ?_
        refine pe_go (pc := 915) rfl (s_iload rfl) ?_
        refine pe_go rfl (s_if_eq_t ⟨by decide, by decide⟩ (by decide)) ?_
        refine pe_go (pc := 927) rfl (s_iload rfl) ?_
        refine pe_go (pc := 929) rfl (s_iload rfl) ?_
        refine pe_go rfl (s_if_eq_t ⟨by decide, by decide⟩ (by decide)) ?_
        refine pe_go (pc := 938) rfl (s_iconst (z := 0) rfl) ?_
        refine pe_go (pc := 939) rfl s_iadd0 ?_
        refine pe_go (pc := 940) rfl (s_istore (lv' := [(8, .int (iI x8)), (21, .int (iI 0)), (20, .ref ru), (18, .long (lI (S.lin u v r s))), (17, .int (iI (s : Int))), (16, .int (iI (r : Int))), (12, .int (iI 0)), (11, .int (iI (v : Int))), (10, .int (iI (u : Int))), (9, .ref q), (7, .int (iI x7)), (6, .int (iI x6)), (5, .int (iI x5)), (4, .int (iI x4)), (3, .int (iI x3)), (2, .int (iI (T : Int))), (0, .ref b), (1, .ref a)]) rfl) ?_
        refine pe_few (lv := [(11, .int (iI (v : Int))), (10, .int (iI (u : Int))), (9, .ref q), (8, .int (iI x8)), (7, .int (iI x7)), (6, .int (iI x6)), (5, .int (iI x5)), (4, .int (iI x4)), (3, .int (iI x3)), (2, .int (iI (T : Int))), (0, .ref b), (1, .ref a)]) rfl rfl (by intro q hq; simp only [List.mem_cons, List.not_mem_nil, or_false] at hq; rcases hq with rfl | rfl | rfl | rfl | rfl | rfl | rfl | rfl | rfl | rfl | rfl | rfl <;> rfl) ?_
        exact KK0 (by rintro (z | ⟨z1, z2 | z2⟩) <;> first | omega | exact absurd z2 (by assumption))
  · skip
    refine pe_go (pc := 825) rfl (s_aload_n rfl) ?_
    refine pe_go (pc := 826) rfl (s_getf (v := .ref pa) h0 rfl) ?_
    refine pe_go (pc := 829) rfl (s_iload rfl) ?_
    refine pe_go (pc := 831) rfl (s_aald h1 (k := u) (by omega) (by omega) eru) ?_
    refine pe_go (pc := 832) rfl (s_aload_n rfl) ?_
    refine pe_go (pc := 833) rfl (s_getf (v := .ref pa) h0 rfl) ?_
    refine pe_go (pc := 836) rfl (s_iload rfl) ?_
    refine pe_go (pc := 838) rfl (s_aald h1 (k := v) (by omega) (by omega) erv) ?_
    refine pe_call rfl (s_invS rfl rfl rfl) (w_ahead hru hrv (hO.1.sq hu) (hO.1.sq hv)) ?_
    refine pe_go rfl (s_ifeq_true (decide_eq_true hf)) ?_
    refine pe_go (pc := 845) rfl (s_aload_n rfl) ?_
    refine pe_go (pc := 846) rfl (s_getf (v := .ref pa) h0 rfl) ?_
    refine pe_go (pc := 849) rfl (s_iload rfl) ?_
    refine pe_go (pc := 851) rfl (s_aald h1 (k := u) (by omega) (by omega) eru) ?_
    refine pe_go (pc := 852) rfl s_goto ?_
    refine pe_go (pc := 862) rfl (s_astore (lv' := [(20, .ref ru), (18, .long (lI (S.lin u v r s))), (17, .int (iI (s : Int))), (16, .int (iI (r : Int))), (12, .int (iI 0)), (11, .int (iI (v : Int))), (10, .int (iI (u : Int))), (9, .ref q), (8, .int (iI x8)), (7, .int (iI x7)), (6, .int (iI x6)), (5, .int (iI x5)), (4, .int (iI x4)), (3, .int (iI x3)), (2, .int (iI (T : Int))), (0, .ref b), (1, .ref a)]) rfl) ?_
    refine pe_go (pc := 864) rfl (s_lload rfl) ?_
    refine pe_go (pc := 866) rfl s_lconst0 ?_
    refine pe_go rfl (s_lcmp_gt ⟨by omega, by omega⟩ ⟨by omega, by omega⟩ hc) ?_
    refine pe_go rfl (s_if_gt_t ⟨by decide, by decide⟩ (by decide)) ?_
    refine pe_go (pc := 908) rfl (s_iconst (z := 1) rfl) ?_
    refine pe_go (pc := 909) rfl s_goto ?_
    refine pe_go (pc := 913) rfl (s_istore (lv' := [(21, .int (iI 1)), (20, .ref ru), (18, .long (lI (S.lin u v r s))), (17, .int (iI (s : Int))), (16, .int (iI (r : Int))), (12, .int (iI 0)), (11, .int (iI (v : Int))), (10, .int (iI (u : Int))), (9, .ref q), (8, .int (iI x8)), (7, .int (iI x7)), (6, .int (iI x6)), (5, .int (iI x5)), (4, .int (iI x4)), (3, .int (iI x3)), (2, .int (iI (T : Int))), (0, .ref b), (1, .ref a)]) rfl) ?_
    refine pe_go (pc := 915) rfl (s_iload rfl) ?_
    refine pe_go rfl (s_if_eq_f ⟨by decide, by decide⟩ (by decide)) ?_
    refine pe_go (pc := 920) rfl (s_iload rfl) ?_
    refine pe_go rfl (s_if_ne_t ⟨by decide, by decide⟩ (by exfalso; exact hN (Or.inl hc))) ?_
    refine pe_go (pc := 927) rfl (s_iload rfl) ?_
    refine pe_go (pc := 929) rfl (s_iload rfl) ?_
    refine pe_go rfl (s_if_eq_f ⟨by decide, by decide⟩ (by decide)) ?_
    refine pe_go (pc := 934) rfl (s_iconst (z := 1) rfl) ?_
    refine pe_go (pc := 935) rfl s_goto ?_
    refine pe_go (pc := 939) rfl s_iadd ?_
    refine pe_go (pc := 940) rfl (s_istore (lv' := [(8, .int (iI (x8 + 1))), (21, .int (iI 1)), (20, .ref ru), (18, .long (lI (S.lin u v r s))), (17, .int (iI (s : Int))), (16, .int (iI (r : Int))), (12, .int (iI 0)), (11, .int (iI (v : Int))), (10, .int (iI (u : Int))), (9, .ref q), (7, .int (iI x7)), (6, .int (iI x6)), (5, .int (iI x5)), (4, .int (iI x4)), (3, .int (iI x3)), (2, .int (iI (T : Int))), (0, .ref b), (1, .ref a)]) rfl) ?_
    refine pe_few (lv := [(11, .int (iI (v : Int))), (10, .int (iI (u : Int))), (9, .ref q), (8, .int (iI (x8 + 1))), (7, .int (iI x7)), (6, .int (iI x6)), (5, .int (iI x5)), (4, .int (iI x4)), (3, .int (iI x3)), (2, .int (iI (T : Int))), (0, .ref b), (1, .ref a)]) rfl rfl (by intro q hq; simp only [List.mem_cons, List.not_mem_nil, or_false] at hq; rcases hq with rfl | rfl | rfl | rfl | rfl | rfl | rfl | rfl | rfl | rfl | rfl | rfl <;> rfl) ?_
    exact KK1 (Or.inl hc)
theorem l_bad0v {w : pW} {pre post : pW} {b : Nat} (hb : pre.length = b) {S : St} {L M : List St} {K : St} (hO : OB pre post b S L M K w) {O Q : Nat → Prop} {a : Nat} {X : Sh} {pa fa ha : Nat} {pf gf hf : Nat → Option Nat} {ff : Nat → Nat} (hS : shP w O Q a X pa fa ha pf gf hf ff) {q : Nat} {x3 x4 x5 x6 x7 x8 : Int} {T : Nat} {Φ : Option Value → pW → Prop} {u v r s : Nat} (hu : u < 40) (hv : v < 40) (hr : r < 40) (hs : s < 40) (su : S.has u) (sv : S.has v) (sr : S.has r) (ss : S.has s) (hR : Rel S X) (hf : ¬ S.ahd u v) (hN : ¬ (0 < S.lin u v r s ∨ (S.lin u v r s = 0 ∧ (S.ahd r v ∨ S.ahd s v)))) (KK1 : (0 < S.lin u v r s ∨ (S.lin u v r s = 0 ∧ (S.ahd r v ∨ S.ahd s v))) → qE 151 (942, [(11, .int (iI (v : Int))), (10, .int (iI (u : Int))), (9, .ref q), (8, .int (iI (x8 + 1))), (7, .int (iI x7)), (6, .int (iI x6)), (5, .int (iI x5)), (4, .int (iI x4)), (3, .int (iI x3)), (2, .int (iI (T : Int))), (0, .ref b), (1, .ref a)], [], w) Φ) (KK0 : ¬ (0 < S.lin u v r s ∨ (S.lin u v r s = 0 ∧ (S.ahd r v ∨ S.ahd s v))) → qE 151 (942, [(11, .int (iI (v : Int))), (10, .int (iI (u : Int))), (9, .ref q), (8, .int (iI x8)), (7, .int (iI x7)), (6, .int (iI x6)), (5, .int (iI x5)), (4, .int (iI x4)), (3, .int (iI x3)), (2, .int (iI (T : Int))), (0, .ref b), (1, .ref a)], [], w) Φ) : qE 151 (825, [(18, .long (lI (S.lin u v r s))), (17, .int (iI (s : Int))), (16, .int (iI (r : Int))), (12, .int (iI 0)), (11, .int (iI (v : Int))), (10, .int (iI (u : Int))), (9, .ref q), (8, .int (iI x8)), (7, .int (iI x7)), (6, .int (iI x6)), (5, .int (iI x5)), (4, .int (iI x4)), (3, .int (iI x3)), (2, .int (iI (T : Int))), (0, .ref b), (1, .ref a)], [], w) Φ := by
  obtain ⟨hb9, h0, h1, h2, h3, h4, h5, h6, h7, h8, h9⟩ := hS
  obtain ⟨ru, eru, -, hru⟩ := h3 u _ _ _ hu (hR.pt hu su)
  have bu := hO.1.B u hu
  obtain ⟨rv, erv, -, hrv⟩ := h3 v _ _ _ hv (hR.pt hv sv)
  have bv := hO.1.B v hv
  obtain ⟨rr, err, -, hrr⟩ := h3 r _ _ _ hr (hR.pt hr sr)
  have br := hO.1.B r hr
  obtain ⟨rs, ers, -, hrs⟩ := h3 s _ _ _ hs (hR.pt hs ss)
  have bs := hO.1.B s hs
  have hD := hO.1.lin_b hu hv hr hs
  rcases Int.lt_trichotomy (S.lin u v r s) 0 with hc | hc | hc
  · skip
    refine pe_go (pc := 825) rfl (s_aload_n rfl) ?_
    refine pe_go (pc := 826) rfl (s_getf (v := .ref pa) h0 rfl) ?_
    refine pe_go (pc := 829) rfl (s_iload rfl) ?_
    refine pe_go (pc := 831) rfl (s_aald h1 (k := u) (by omega) (by omega) eru) ?_
    refine pe_go (pc := 832) rfl (s_aload_n rfl) ?_
    refine pe_go (pc := 833) rfl (s_getf (v := .ref pa) h0 rfl) ?_
    refine pe_go (pc := 836) rfl (s_iload rfl) ?_
    refine pe_go (pc := 838) rfl (s_aald h1 (k := v) (by omega) (by omega) erv) ?_
    refine pe_call rfl (s_invS rfl rfl rfl) (w_ahead hru hrv (hO.1.sq hu) (hO.1.sq hv)) ?_
    refine pe_go rfl (s_ifeq_false (decide_eq_false hf)) ?_
    refine pe_go (pc := 855) rfl (s_aload_n rfl) ?_
    refine pe_go (pc := 856) rfl (s_getf (v := .ref pa) h0 rfl) ?_
    refine pe_go (pc := 859) rfl (s_iload rfl) ?_
    refine pe_go (pc := 861) rfl (s_aald h1 (k := v) (by omega) (by omega) erv) ?_
    refine pe_go (pc := 862) rfl (s_astore (lv' := [(20, .ref rv), (18, .long (lI (S.lin u v r s))), (17, .int (iI (s : Int))), (16, .int (iI (r : Int))), (12, .int (iI 0)), (11, .int (iI (v : Int))), (10, .int (iI (u : Int))), (9, .ref q), (8, .int (iI x8)), (7, .int (iI x7)), (6, .int (iI x6)), (5, .int (iI x5)), (4, .int (iI x4)), (3, .int (iI x3)), (2, .int (iI (T : Int))), (0, .ref b), (1, .ref a)]) rfl) ?_
    refine pe_go (pc := 864) rfl (s_lload rfl) ?_
    refine pe_go (pc := 866) rfl s_lconst0 ?_
    refine pe_go rfl (s_lcmp_lt ⟨by omega, by omega⟩ ⟨by omega, by omega⟩ hc) ?_
    refine pe_go rfl (s_if_gt_f ⟨by decide, by decide⟩ (by decide)) ?_
    refine pe_go (pc := 871) rfl (s_lload rfl) ?_
    refine pe_go (pc := 873) rfl s_lconst0 ?_
    refine pe_go rfl (s_lcmp_lt ⟨by omega, by omega⟩ ⟨by omega, by omega⟩ hc) ?_
    refine pe_go rfl (s_if_ne_t ⟨by decide, by decide⟩ (by decide)) ?_
    refine pe_go (pc := 912) rfl (s_iconst (z := 0) rfl) ?_
    refine pe_go (pc := 913) rfl (s_istore (lv' := [(21, .int (iI 0)), (20, .ref rv), (18, .long (lI (S.lin u v r s))), (17, .int (iI (s : Int))), (16, .int (iI (r : Int))), (12, .int (iI 0)), (11, .int (iI (v : Int))), (10, .int (iI (u : Int))), (9, .ref q), (8, .int (iI x8)), (7, .int (iI x7)), (6, .int (iI x6)), (5, .int (iI x5)), (4, .int (iI x4)), (3, .int (iI x3)), (2, .int (iI (T : Int))), (0, .ref b), (1, .ref a)]) rfl) ?_
    refine pe_go (pc := 915) rfl (s_iload rfl) ?_
    refine pe_go rfl (s_if_eq_t ⟨by decide, by decide⟩ (by decide)) ?_
    refine pe_go (pc := 927) rfl (s_iload rfl) ?_
    refine pe_go (pc := 929) rfl (s_iload rfl) ?_
    refine pe_go rfl (s_if_eq_t ⟨by decide, by decide⟩ (by decide)) ?_
    refine pe_go (pc := 938) rfl (s_iconst (z := 0) rfl) ?_
    refine pe_go (pc := 939) rfl s_iadd0 ?_
    refine pe_go (pc := 940) rfl (s_istore (lv' := [(8, .int (iI x8)), (21, .int (iI 0)), (20, .ref rv), (18, .long (lI (S.lin u v r s))), (17, .int (iI (s : Int))), (16, .int (iI (r : Int))), (12, .int (iI 0)), (11, .int (iI (v : Int))), (10, .int (iI (u : Int))), (9, .ref q), (7, .int (iI x7)), (6, .int (iI x6)), (5, .int (iI x5)), (4, .int (iI x4)), (3, .int (iI x3)), (2, .int (iI (T : Int))), (0, .ref b), (1, .ref a)]) rfl) ?_
    refine pe_few (lv := [(11, .int (iI (v : Int))), (10, .int (iI (u : Int))), (9, .ref q), (8, .int (iI x8)), (7, .int (iI x7)), (6, .int (iI x6)), (5, .int (iI x5)), (4, .int (iI x4)), (3, .int (iI x3)), (2, .int (iI (T : Int))), (0, .ref b), (1, .ref a)]) rfl rfl (by intro q hq; simp only [List.mem_cons, List.not_mem_nil, or_false] at hq; rcases hq with rfl | rfl | rfl | rfl | rfl | rfl | rfl | rfl | rfl | rfl | rfl | rfl <;> rfl) ?_
    exact KK0 (by rintro (z | ⟨z1, z2 | z2⟩) <;> first | omega | exact absurd z2 (by assumption))
  · skip
    refine pe_go (pc := 825) rfl (s_aload_n rfl) ?_
    refine pe_go (pc := 826) rfl (s_getf (v := .ref pa) h0 rfl) ?_
    refine pe_go (pc := 829) rfl (s_iload rfl) ?_
    refine pe_go (pc := 831) rfl (s_aald h1 (k := u) (by omega) (by omega) eru) ?_
    refine pe_go (pc := 832) rfl (s_aload_n rfl) ?_
    refine pe_go (pc := 833) rfl (s_getf (v := .ref pa) h0 rfl) ?_
    refine pe_go (pc := 836) rfl (s_iload rfl) ?_
    refine pe_go (pc := 838) rfl (s_aald h1 (k := v) (by omega) (by omega) erv) ?_
    refine pe_call rfl (s_invS rfl rfl rfl) (w_ahead hru hrv (hO.1.sq hu) (hO.1.sq hv)) ?_
    refine pe_go rfl (s_ifeq_false (decide_eq_false hf)) ?_
    refine pe_go (pc := 855) rfl (s_aload_n rfl) ?_
    refine pe_go (pc := 856) rfl (s_getf (v := .ref pa) h0 rfl) ?_
    refine pe_go (pc := 859) rfl (s_iload rfl) ?_
    refine pe_go (pc := 861) rfl (s_aald h1 (k := v) (by omega) (by omega) erv) ?_
    refine pe_go (pc := 862) rfl (s_astore (lv' := [(20, .ref rv), (18, .long (lI (S.lin u v r s))), (17, .int (iI (s : Int))), (16, .int (iI (r : Int))), (12, .int (iI 0)), (11, .int (iI (v : Int))), (10, .int (iI (u : Int))), (9, .ref q), (8, .int (iI x8)), (7, .int (iI x7)), (6, .int (iI x6)), (5, .int (iI x5)), (4, .int (iI x4)), (3, .int (iI x3)), (2, .int (iI (T : Int))), (0, .ref b), (1, .ref a)]) rfl) ?_
    refine pe_go (pc := 864) rfl (s_lload rfl) ?_
    refine pe_go (pc := 866) rfl s_lconst0 ?_
    refine pe_go rfl (s_lcmp_eq hc) ?_
    refine pe_go rfl (s_if_gt_f ⟨by decide, by decide⟩ (by decide)) ?_
    refine pe_go (pc := 871) rfl (s_lload rfl) ?_
    refine pe_go (pc := 873) rfl s_lconst0 ?_
    refine pe_go rfl (s_lcmp_eq hc) ?_
    refine pe_go rfl (s_if_ne_f ⟨by decide, by decide⟩ (by decide)) ?_
    refine pe_go (pc := 878) rfl (s_aload_n rfl) ?_
    refine pe_go (pc := 879) rfl (s_getf (v := .ref pa) h0 rfl) ?_
    refine pe_go (pc := 882) rfl (s_iload rfl) ?_
    refine pe_go (pc := 884) rfl (s_aald h1 (k := r) (by omega) (by omega) err) ?_
    refine pe_go (pc := 885) rfl (s_aload rfl) ?_
    refine pe_call rfl (s_invS rfl rfl rfl) (w_ahead hrr hrv (hO.1.sq hr) (hO.1.sq hv)) ?_
    by_cases b1 : S.ahd r v
    · skip
      refine pe_go rfl (s_ifne_true (decide_eq_true b1)) ?_
      refine pe_go (pc := 908) rfl (s_iconst (z := 1) rfl) ?_
      refine pe_go (pc := 909) rfl s_goto ?_
      refine pe_go (pc := 913) rfl (s_istore (lv' := [(21, .int (iI 1)), (20, .ref rv), (18, .long (lI (S.lin u v r s))), (17, .int (iI (s : Int))), (16, .int (iI (r : Int))), (12, .int (iI 0)), (11, .int (iI (v : Int))), (10, .int (iI (u : Int))), (9, .ref q), (8, .int (iI x8)), (7, .int (iI x7)), (6, .int (iI x6)), (5, .int (iI x5)), (4, .int (iI x4)), (3, .int (iI x3)), (2, .int (iI (T : Int))), (0, .ref b), (1, .ref a)]) rfl) ?_
      refine pe_go (pc := 915) rfl (s_iload rfl) ?_
      refine pe_go rfl (s_if_eq_f ⟨by decide, by decide⟩ (by decide)) ?_
      refine pe_go (pc := 920) rfl (s_iload rfl) ?_
      refine pe_go rfl (s_if_ne_t ⟨by decide, by decide⟩ (by exfalso; exact hN (Or.inr ⟨hc, by first | exact Or.inl (by assumption) | exact Or.inr (by assumption)⟩))) ?_
      refine pe_go (pc := 927) rfl (s_iload rfl) ?_
      refine pe_go (pc := 929) rfl (s_iload rfl) ?_
      refine pe_go rfl (s_if_eq_f ⟨by decide, by decide⟩ (by decide)) ?_
      refine pe_go (pc := 934) rfl (s_iconst (z := 1) rfl) ?_
      refine pe_go (pc := 935) rfl s_goto ?_
      refine pe_go (pc := 939) rfl s_iadd ?_
      refine pe_go (pc := 940) rfl (s_istore (lv' := [(8, .int (iI (x8 + 1))), (21, .int (iI 1)), (20, .ref rv), (18, .long (lI (S.lin u v r s))), (17, .int (iI (s : Int))), (16, .int (iI (r : Int))), (12, .int (iI 0)), (11, .int (iI (v : Int))), (10, .int (iI (u : Int))), (9, .ref q), (7, .int (iI x7)), (6, .int (iI x6)), (5, .int (iI x5)), (4, .int (iI x4)), (3, .int (iI x3)), (2, .int (iI (T : Int))), (0, .ref b), (1, .ref a)]) rfl) ?_
      refine pe_few (lv := [(11, .int (iI (v : Int))), (10, .int (iI (u : Int))), (9, .ref q), (8, .int (iI (x8 + 1))), (7, .int (iI x7)), (6, .int (iI x6)), (5, .int (iI x5)), (4, .int (iI x4)), (3, .int (iI x3)), (2, .int (iI (T : Int))), (0, .ref b), (1, .ref a)]) rfl rfl (by intro q hq; simp only [List.mem_cons, List.not_mem_nil, or_false] at hq; rcases hq with rfl | rfl | rfl | rfl | rfl | rfl | rfl | rfl | rfl | rfl | rfl | rfl <;> rfl) ?_
      exact KK1 (Or.inr ⟨hc, by first | exact Or.inl (by assumption) | exact Or.inr (by assumption)⟩)
    · skip
      refine pe_go rfl (s_ifne_false (decide_eq_false b1)) ?_
      refine pe_go (pc := 893) rfl (s_aload_n rfl) ?_
      refine pe_go (pc := 894) rfl (s_getf (v := .ref pa) h0 rfl) ?_
      refine pe_go (pc := 897) rfl (s_iload rfl) ?_
      refine pe_go (pc := 899) rfl (s_aald h1 (k := s) (by omega) (by omega) ers) ?_
      refine pe_go (pc := 900) rfl (s_aload rfl) ?_
      refine pe_call rfl (s_invS rfl rfl rfl) (w_ahead hrs hrv (hO.1.sq hs) (hO.1.sq hv)) ?_
      by_cases b2 : S.ahd s v
      · skip
        refine pe_go rfl (s_ifeq_true (decide_eq_true b2)) ?_
        refine pe_go (pc := 908) rfl (s_iconst (z := 1) rfl) ?_
        refine pe_go (pc := 909) rfl s_goto ?_
        refine pe_go (pc := 913) rfl (s_istore (lv' := [(21, .int (iI 1)), (20, .ref rv), (18, .long (lI (S.lin u v r s))), (17, .int (iI (s : Int))), (16, .int (iI (r : Int))), (12, .int (iI 0)), (11, .int (iI (v : Int))), (10, .int (iI (u : Int))), (9, .ref q), (8, .int (iI x8)), (7, .int (iI x7)), (6, .int (iI x6)), (5, .int (iI x5)), (4, .int (iI x4)), (3, .int (iI x3)), (2, .int (iI (T : Int))), (0, .ref b), (1, .ref a)]) rfl) ?_
        refine pe_go (pc := 915) rfl (s_iload rfl) ?_
        refine pe_go rfl (s_if_eq_f ⟨by decide, by decide⟩ (by decide)) ?_
        refine pe_go (pc := 920) rfl (s_iload rfl) ?_
        refine pe_go rfl (s_if_ne_t ⟨by decide, by decide⟩ (by exfalso; exact hN (Or.inr ⟨hc, by first | exact Or.inl (by assumption) | exact Or.inr (by assumption)⟩))) ?_
        refine pe_go (pc := 927) rfl (s_iload rfl) ?_
        refine pe_go (pc := 929) rfl (s_iload rfl) ?_
        refine pe_go rfl (s_if_eq_f ⟨by decide, by decide⟩ (by decide)) ?_
        refine pe_go (pc := 934) rfl (s_iconst (z := 1) rfl) ?_
        refine pe_go (pc := 935) rfl s_goto ?_
        refine pe_go (pc := 939) rfl s_iadd ?_
        refine pe_go (pc := 940) rfl (s_istore (lv' := [(8, .int (iI (x8 + 1))), (21, .int (iI 1)), (20, .ref rv), (18, .long (lI (S.lin u v r s))), (17, .int (iI (s : Int))), (16, .int (iI (r : Int))), (12, .int (iI 0)), (11, .int (iI (v : Int))), (10, .int (iI (u : Int))), (9, .ref q), (7, .int (iI x7)), (6, .int (iI x6)), (5, .int (iI x5)), (4, .int (iI x4)), (3, .int (iI x3)), (2, .int (iI (T : Int))), (0, .ref b), (1, .ref a)]) rfl) ?_
        refine pe_few (lv := [(11, .int (iI (v : Int))), (10, .int (iI (u : Int))), (9, .ref q), (8, .int (iI (x8 + 1))), (7, .int (iI x7)), (6, .int (iI x6)), (5, .int (iI x5)), (4, .int (iI x4)), (3, .int (iI x3)), (2, .int (iI (T : Int))), (0, .ref b), (1, .ref a)]) rfl rfl (by intro q hq; simp only [List.mem_cons, List.not_mem_nil, or_false] at hq; rcases hq with rfl | rfl | rfl | rfl | rfl | rfl | rfl | rfl | rfl | rfl | rfl | rfl <;> rfl) ?_
        exact KK1 (Or.inr ⟨hc, by first | exact Or.inl (by assumption) | exact Or.inr (by assumption)⟩)
      · skip
        refine pe_go rfl (s_ifeq_false (decide_eq_false b2)) ?_
        refine pe_go (pc := 912) rfl (s_iconst (z := 0) rfl) ?_
        refine pe_go (pc := 913) rfl (s_istore (lv' := [(21, .int (iI 0)), (20, .ref rv), (18, .long (lI (S.lin u v r s))), (17, .int (iI (s : Int))), (16, .int (iI (r : Int))), (12, .int (iI 0)), (11, .int (iI (v : Int))), (10, .int (iI (u : Int))), (9, .ref q), (8, .int (iI x8)), (7, .int (iI x7)), (6, .int (iI x6)), (5, .int (iI x5)), (4, .int (iI x4)), (3, .int (iI x3)), (2, .int (iI (T : Int))), (0, .ref b), (1, .ref a)]) rfl) ?_
        refine pe_go (pc := 915) rfl (s_iload rfl) ?_
        refine pe_go rfl (s_if_eq_t ⟨by decide, by decide⟩ (by decide)) ?_
        refine pe_go (pc := 927) rfl (s_iload rfl) ?_
        refine pe_go (pc := 929) rfl (s_iload rfl) ?_
        refine pe_go rfl (s_if_eq_t ⟨by decide, by decide⟩ (by decide)) ?_
        refine pe_go (pc := 938) rfl (s_iconst (z := 0) rfl) ?_
        refine pe_go (pc := 939) rfl s_iadd0 ?_
        refine pe_go (pc := 940) rfl (s_istore (lv' := [(8, .int (iI x8)), (21, .int (iI 0)), (20, .ref rv), (18, .long (lI (S.lin u v r s))), (17, .int (iI (s : Int))), (16, .int (iI (r : Int))), (12, .int (iI 0)), (11, .int (iI (v : Int))), (10, .int (iI (u : Int))), (9, .ref q), (7, .int (iI x7)), (6, .int (iI x6)), (5, .int (iI x5)), (4, .int (iI x4)), (3, .int (iI x3)), (2, .int (iI (T : Int))), (0, .ref b), (1, .ref a)]) rfl) ?_
        refine pe_few (lv := [(11, .int (iI (v : Int))), (10, .int (iI (u : Int))), (9, .ref q), (8, .int (iI x8)), (7, .int (iI x7)), (6, .int (iI x6)), (5, .int (iI x5)), (4, .int (iI x4)), (3, .int (iI x3)), (2, .int (iI (T : Int))), (0, .ref b), (1, .ref a)]) rfl rfl (by intro q hq; simp only [List.mem_cons, List.not_mem_nil, or_false] at hq; rcases hq with rfl | rfl | rfl | rfl | rfl | rfl | rfl | rfl | rfl | rfl | rfl | rfl <;> rfl) ?_
        exact KK0 (by rintro (z | ⟨z1, z2 | z2⟩) <;> first | omega | exact absurd z2 (by assumption))
  · skip
    refine pe_go (pc := 825) rfl (s_aload_n rfl) ?_
    refine pe_go (pc := 826) rfl (s_getf (v := .ref pa) h0 rfl) ?_
    refine pe_go (pc := 829) rfl (s_iload rfl) ?_
    refine pe_go (pc := 831) rfl (s_aald h1 (k := u) (by omega) (by omega) eru) ?_
    refine pe_go (pc := 832) rfl (s_aload_n rfl) ?_
    refine pe_go (pc := 833) rfl (s_getf (v := .ref pa) h0 rfl) ?_
    refine pe_go (pc := 836) rfl (s_iload rfl) ?_
    refine pe_go (pc := 838) rfl (s_aald h1 (k := v) (by omega) (by omega) erv) ?_
    refine pe_call rfl (s_invS rfl rfl rfl) (w_ahead hru hrv (hO.1.sq hu) (hO.1.sq hv)) ?_
    refine pe_go rfl (s_ifeq_false (decide_eq_false hf)) ?_
    refine pe_go (pc := 855) rfl (s_aload_n rfl) ?_
    refine pe_go (pc := 856) rfl (s_getf (v := .ref pa) h0 rfl) ?_
    refine pe_go (pc := 859) rfl (s_iload rfl) ?_
    refine pe_go (pc := 861) rfl (s_aald h1 (k := v) (by omega) (by omega) erv) ?_
    refine pe_go (pc := 862) rfl (s_astore (lv' := [(20, .ref rv), (18, .long (lI (S.lin u v r s))), (17, .int (iI (s : Int))), (16, .int (iI (r : Int))), (12, .int (iI 0)), (11, .int (iI (v : Int))), (10, .int (iI (u : Int))), (9, .ref q), (8, .int (iI x8)), (7, .int (iI x7)), (6, .int (iI x6)), (5, .int (iI x5)), (4, .int (iI x4)), (3, .int (iI x3)), (2, .int (iI (T : Int))), (0, .ref b), (1, .ref a)]) rfl) ?_
    refine pe_go (pc := 864) rfl (s_lload rfl) ?_
    refine pe_go (pc := 866) rfl s_lconst0 ?_
    refine pe_go rfl (s_lcmp_gt ⟨by omega, by omega⟩ ⟨by omega, by omega⟩ hc) ?_
    refine pe_go rfl (s_if_gt_t ⟨by decide, by decide⟩ (by decide)) ?_
    refine pe_go (pc := 908) rfl (s_iconst (z := 1) rfl) ?_
    refine pe_go (pc := 909) rfl s_goto ?_
    refine pe_go (pc := 913) rfl (s_istore (lv' := [(21, .int (iI 1)), (20, .ref rv), (18, .long (lI (S.lin u v r s))), (17, .int (iI (s : Int))), (16, .int (iI (r : Int))), (12, .int (iI 0)), (11, .int (iI (v : Int))), (10, .int (iI (u : Int))), (9, .ref q), (8, .int (iI x8)), (7, .int (iI x7)), (6, .int (iI x6)), (5, .int (iI x5)), (4, .int (iI x4)), (3, .int (iI x3)), (2, .int (iI (T : Int))), (0, .ref b), (1, .ref a)]) rfl) ?_
    refine pe_go (pc := 915) rfl (s_iload rfl) ?_
    refine pe_go rfl (s_if_eq_f ⟨by decide, by decide⟩ (by decide)) ?_
    refine pe_go (pc := 920) rfl (s_iload rfl) ?_
    refine pe_go rfl (s_if_ne_t ⟨by decide, by decide⟩ (by exfalso; exact hN (Or.inl hc))) ?_
    refine pe_go (pc := 927) rfl (s_iload rfl) ?_
    refine pe_go (pc := 929) rfl (s_iload rfl) ?_
    refine pe_go rfl (s_if_eq_f ⟨by decide, by decide⟩ (by decide)) ?_
    refine pe_go (pc := 934) rfl (s_iconst (z := 1) rfl) ?_
    refine pe_go (pc := 935) rfl s_goto ?_
    refine pe_go (pc := 939) rfl s_iadd ?_
    refine pe_go (pc := 940) rfl (s_istore (lv' := [(8, .int (iI (x8 + 1))), (21, .int (iI 1)), (20, .ref rv), (18, .long (lI (S.lin u v r s))), (17, .int (iI (s : Int))), (16, .int (iI (r : Int))), (12, .int (iI 0)), (11, .int (iI (v : Int))), (10, .int (iI (u : Int))), (9, .ref q), (7, .int (iI x7)), (6, .int (iI x6)), (5, .int (iI x5)), (4, .int (iI x4)), (3, .int (iI x3)), (2, .int (iI (T : Int))), (0, .ref b), (1, .ref a)]) rfl) ?_
    refine pe_few (lv := [(11, .int (iI (v : Int))), (10, .int (iI (u : Int))), (9, .ref q), (8, .int (iI (x8 + 1))), (7, .int (iI x7)), (6, .int (iI x6)), (5, .int (iI x5)), (4, .int (iI x4)), (3, .int (iI x3)), (2, .int (iI (T : Int))), (0, .ref b), (1, .ref a)]) rfl rfl (by intro q hq; simp only [List.mem_cons, List.not_mem_nil, or_false] at hq; rcases hq with rfl | rfl | rfl | rfl | rfl | rfl | rfl | rfl | rfl | rfl | rfl | rfl <;> rfl) ?_
    exact KK1 (Or.inl hc)
theorem l_bad1u {w : pW} {pre post : pW} {b : Nat} (hb : pre.length = b) {S : St} {L M : List St} {K : St} (hO : OB pre post b S L M K w) {O Q : Nat → Prop} {a : Nat} {X : Sh} {pa fa ha : Nat} {pf gf hf : Nat → Option Nat} {ff : Nat → Nat} (hS : shP w O Q a X pa fa ha pf gf hf ff) {q : Nat} {x3 x4 x5 x6 x7 x8 : Int} {T : Nat} {Φ : Option Value → pW → Prop} {u v r s : Nat} (hu : u < 40) (hv : v < 40) (hr : r < 40) (hs : s < 40) (su : S.has u) (sv : S.has v) (sr : S.has r) (ss : S.has s) (hR : Rel S X) (hf : S.ahd u v)  (KK1 : (0 < S.lin u v r s ∨ (S.lin u v r s = 0 ∧ (S.ahd r u ∨ S.ahd s u))) → qE 151 (942, [(11, .int (iI (v : Int))), (10, .int (iI (u : Int))), (9, .ref q), (8, .int (iI (x8 + 1))), (7, .int (iI x7)), (6, .int (iI x6)), (5, .int (iI x5)), (4, .int (iI x4)), (3, .int (iI x3)), (2, .int (iI (T : Int))), (0, .ref b), (1, .ref a)], [], w) Φ) (KK0 : ¬ (0 < S.lin u v r s ∨ (S.lin u v r s = 0 ∧ (S.ahd r u ∨ S.ahd s u))) → qE 151 (942, [(11, .int (iI (v : Int))), (10, .int (iI (u : Int))), (9, .ref q), (8, .int (iI x8)), (7, .int (iI x7)), (6, .int (iI x6)), (5, .int (iI x5)), (4, .int (iI x4)), (3, .int (iI x3)), (2, .int (iI (T : Int))), (0, .ref b), (1, .ref a)], [], w) Φ) : qE 151 (825, [(18, .long (lI (S.lin u v r s))), (17, .int (iI (s : Int))), (16, .int (iI (r : Int))), (12, .int (iI 1)), (11, .int (iI (v : Int))), (10, .int (iI (u : Int))), (9, .ref q), (8, .int (iI x8)), (7, .int (iI x7)), (6, .int (iI x6)), (5, .int (iI x5)), (4, .int (iI x4)), (3, .int (iI x3)), (2, .int (iI (T : Int))), (0, .ref b), (1, .ref a)], [], w) Φ := by
  obtain ⟨hb9, h0, h1, h2, h3, h4, h5, h6, h7, h8, h9⟩ := hS
  obtain ⟨ru, eru, -, hru⟩ := h3 u _ _ _ hu (hR.pt hu su)
  have bu := hO.1.B u hu
  obtain ⟨rv, erv, -, hrv⟩ := h3 v _ _ _ hv (hR.pt hv sv)
  have bv := hO.1.B v hv
  obtain ⟨rr, err, -, hrr⟩ := h3 r _ _ _ hr (hR.pt hr sr)
  have br := hO.1.B r hr
  obtain ⟨rs, ers, -, hrs⟩ := h3 s _ _ _ hs (hR.pt hs ss)
  have bs := hO.1.B s hs
  have hD := hO.1.lin_b hu hv hr hs
  rcases Int.lt_trichotomy (S.lin u v r s) 0 with hc | hc | hc
  · skip
    refine pe_go (pc := 825) rfl (s_aload_n rfl) ?_
    refine pe_go (pc := 826) rfl (s_getf (v := .ref pa) h0 rfl) ?_
    refine pe_go (pc := 829) rfl (s_iload rfl) ?_
    refine pe_go (pc := 831) rfl (s_aald h1 (k := u) (by omega) (by omega) eru) ?_
    refine pe_go (pc := 832) rfl (s_aload_n rfl) ?_
    refine pe_go (pc := 833) rfl (s_getf (v := .ref pa) h0 rfl) ?_
    refine pe_go (pc := 836) rfl (s_iload rfl) ?_
    refine pe_go (pc := 838) rfl (s_aald h1 (k := v) (by omega) (by omega) erv) ?_
    refine pe_call rfl (s_invS rfl rfl rfl) (w_ahead hru hrv (hO.1.sq hu) (hO.1.sq hv)) ?_
    refine pe_go rfl (s_ifeq_true (decide_eq_true hf)) ?_
    refine pe_go (pc := 845) rfl (s_aload_n rfl) ?_
    refine pe_go (pc := 846) rfl (s_getf (v := .ref pa) h0 rfl) ?_
    refine pe_go (pc := 849) rfl (s_iload rfl) ?_
    refine pe_go (pc := 851) rfl (s_aald h1 (k := u) (by omega) (by omega) eru) ?_
    refine pe_go (pc := 852) rfl s_goto ?_
    refine pe_go (pc := 862) rfl (s_astore (lv' := [(20, .ref ru), (18, .long (lI (S.lin u v r s))), (17, .int (iI (s : Int))), (16, .int (iI (r : Int))), (12, .int (iI 1)), (11, .int (iI (v : Int))), (10, .int (iI (u : Int))), (9, .ref q), (8, .int (iI x8)), (7, .int (iI x7)), (6, .int (iI x6)), (5, .int (iI x5)), (4, .int (iI x4)), (3, .int (iI x3)), (2, .int (iI (T : Int))), (0, .ref b), (1, .ref a)]) rfl) ?_
    refine pe_go (pc := 864) rfl (s_lload rfl) ?_
    refine pe_go (pc := 866) rfl s_lconst0 ?_
    refine pe_go rfl (s_lcmp_lt ⟨by omega, by omega⟩ ⟨by omega, by omega⟩ hc) ?_
    refine pe_go rfl (s_if_gt_f ⟨by decide, by decide⟩ (by decide)) ?_
    refine pe_go (pc := 871) rfl (s_lload rfl) ?_
    refine pe_go (pc := 873) rfl s_lconst0 ?_
    refine pe_go rfl (s_lcmp_lt ⟨by omega, by omega⟩ ⟨by omega, by omega⟩ hc) ?_
    refine pe_go rfl (s_if_ne_t ⟨by decide, by decide⟩ (by decide)) ?_
    refine pe_go (pc := 912) rfl (s_iconst (z := 0) rfl) ?_
    refine pe_go (pc := 913) rfl (s_istore (lv' := [(21, .int (iI 0)), (20, .ref ru), (18, .long (lI (S.lin u v r s))), (17, .int (iI (s : Int))), (16, .int (iI (r : Int))), (12, .int (iI 1)), (11, .int (iI (v : Int))), (10, .int (iI (u : Int))), (9, .ref q), (8, .int (iI x8)), (7, .int (iI x7)), (6, .int (iI x6)), (5, .int (iI x5)), (4, .int (iI x4)), (3, .int (iI x3)), (2, .int (iI (T : Int))), (0, .ref b), (1, .ref a)]) rfl) ?_
    refine pe_go (pc := 915) rfl (s_iload rfl) ?_
    refine pe_go rfl (s_if_eq_t ⟨by decide, by decide⟩ (by decide)) ?_
    refine pe_go (pc := 927) rfl (s_iload rfl) ?_
    refine pe_go (pc := 929) rfl (s_iload rfl) ?_
    refine pe_go rfl (s_if_eq_t ⟨by decide, by decide⟩ (by decide)) ?_
    refine pe_go (pc := 938) rfl (s_iconst (z := 0) rfl) ?_
    refine pe_go (pc := 939) rfl s_iadd0 ?_
    refine pe_go (pc := 940) rfl (s_istore (lv' := [(8, .int (iI x8)), (21, .int (iI 0)), (20, .ref ru), (18, .long (lI (S.lin u v r s))), (17, .int (iI (s : Int))), (16, .int (iI (r : Int))), (12, .int (iI 1)), (11, .int (iI (v : Int))), (10, .int (iI (u : Int))), (9, .ref q), (7, .int (iI x7)), (6, .int (iI x6)), (5, .int (iI x5)), (4, .int (iI x4)), (3, .int (iI x3)), (2, .int (iI (T : Int))), (0, .ref b), (1, .ref a)]) rfl) ?_
    refine pe_few (lv := [(11, .int (iI (v : Int))), (10, .int (iI (u : Int))), (9, .ref q), (8, .int (iI x8)), (7, .int (iI x7)), (6, .int (iI x6)), (5, .int (iI x5)), (4, .int (iI x4)), (3, .int (iI x3)), (2, .int (iI (T : Int))), (0, .ref b), (1, .ref a)]) rfl rfl (by intro q hq; simp only [List.mem_cons, List.not_mem_nil, or_false] at hq; rcases hq with rfl | rfl | rfl | rfl | rfl | rfl | rfl | rfl | rfl | rfl | rfl | rfl <;> rfl) ?_
    exact KK0 (by rintro (z | ⟨z1, z2 | z2⟩) <;> first | omega | exact absurd z2 (by assumption))
  · skip
    refine pe_go (pc := 825) rfl (s_aload_n rfl) ?_
    refine pe_go (pc := 826) rfl (s_getf (v := .ref pa) h0 rfl) ?_
    refine pe_go (pc := 829) rfl (s_iload rfl) ?_
    refine pe_go (pc := 831) rfl (s_aald h1 (k := u) (by omega) (by omega) eru) ?_
    refine pe_go (pc := 832) rfl (s_aload_n rfl) ?_
    refine pe_go (pc := 833) rfl (s_getf (v := .ref pa) h0 rfl) ?_
    refine pe_go (pc := 836) rfl (s_iload rfl) ?_
    refine pe_go (pc := 838) rfl (s_aald h1 (k := v) (by omega) (by omega) erv) ?_
    refine pe_call rfl (s_invS rfl rfl rfl) (w_ahead hru hrv (hO.1.sq hu) (hO.1.sq hv)) ?_
    refine pe_go rfl (s_ifeq_true (decide_eq_true hf)) ?_
    refine pe_go (pc := 845) rfl (s_aload_n rfl) ?_
    refine pe_go (pc := 846) rfl (s_getf (v := .ref pa) h0 rfl) ?_
    refine pe_go (pc := 849) rfl (s_iload rfl) ?_
    refine pe_go (pc := 851) rfl (s_aald h1 (k := u) (by omega) (by omega) eru) ?_
    refine pe_go (pc := 852) rfl s_goto ?_
    refine pe_go (pc := 862) rfl (s_astore (lv' := [(20, .ref ru), (18, .long (lI (S.lin u v r s))), (17, .int (iI (s : Int))), (16, .int (iI (r : Int))), (12, .int (iI 1)), (11, .int (iI (v : Int))), (10, .int (iI (u : Int))), (9, .ref q), (8, .int (iI x8)), (7, .int (iI x7)), (6, .int (iI x6)), (5, .int (iI x5)), (4, .int (iI x4)), (3, .int (iI x3)), (2, .int (iI (T : Int))), (0, .ref b), (1, .ref a)]) rfl) ?_
    refine pe_go (pc := 864) rfl (s_lload rfl) ?_
    refine pe_go (pc := 866) rfl s_lconst0 ?_
    refine pe_go rfl (s_lcmp_eq hc) ?_
    refine pe_go rfl (s_if_gt_f ⟨by decide, by decide⟩ (by decide)) ?_
    refine pe_go (pc := 871) rfl (s_lload rfl) ?_
    refine pe_go (pc := 873) rfl s_lconst0 ?_
    refine pe_go rfl (s_lcmp_eq hc) ?_
    refine pe_go rfl (s_if_ne_f ⟨by decide, by decide⟩ (by decide)) ?_
    refine pe_go (pc := 878) rfl (s_aload_n rfl) ?_
    refine pe_go (pc := 879) rfl (s_getf (v := .ref pa) h0 rfl) ?_
    refine pe_go (pc := 882) rfl (s_iload rfl) ?_
    refine pe_go (pc := 884) rfl (s_aald h1 (k := r) (by omega) (by omega) err) ?_
    refine pe_go (pc := 885) rfl (s_aload rfl) ?_
    refine pe_call rfl (s_invS rfl rfl rfl) (w_ahead hrr hru (hO.1.sq hr) (hO.1.sq hu)) ?_
    by_cases b1 : S.ahd r u
    · skip
      refine pe_go rfl (s_ifne_true (decide_eq_true b1)) ?_
      refine pe_go (pc := 908) rfl (s_iconst (z := 1) rfl) ?_
      refine pe_go (pc := 909) rfl s_goto ?_
      refine pe_go (pc := 913) rfl (s_istore (lv' := [(21, .int (iI 1)), (20, .ref ru), (18, .long (lI (S.lin u v r s))), (17, .int (iI (s : Int))), (16, .int (iI (r : Int))), (12, .int (iI 1)), (11, .int (iI (v : Int))), (10, .int (iI (u : Int))), (9, .ref q), (8, .int (iI x8)), (7, .int (iI x7)), (6, .int (iI x6)), (5, .int (iI x5)), (4, .int (iI x4)), (3, .int (iI x3)), (2, .int (iI (T : Int))), (0, .ref b), (1, .ref a)]) rfl) ?_
      refine pe_go (pc := 915) rfl (s_iload rfl) ?_
      refine pe_go rfl (s_if_eq_f ⟨by decide, by decide⟩ (by decide)) ?_
      refine pe_go (pc := 920) rfl (s_iload rfl) ?_
      refine pe_go rfl (s_if_ne_t ⟨by decide, by decide⟩ (by decide)) ?_
      refine pe_go (pc := 927) rfl (s_iload rfl) ?_
      refine pe_go (pc := 929) rfl (s_iload rfl) ?_
      refine pe_go rfl (s_if_eq_f ⟨by decide, by decide⟩ (by decide)) ?_
      refine pe_go (pc := 934) rfl (s_iconst (z := 1) rfl) ?_
      refine pe_go (pc := 935) rfl s_goto ?_
      refine pe_go (pc := 939) rfl s_iadd ?_
      refine pe_go (pc := 940) rfl (s_istore (lv' := [(8, .int (iI (x8 + 1))), (21, .int (iI 1)), (20, .ref ru), (18, .long (lI (S.lin u v r s))), (17, .int (iI (s : Int))), (16, .int (iI (r : Int))), (12, .int (iI 1)), (11, .int (iI (v : Int))), (10, .int (iI (u : Int))), (9, .ref q), (7, .int (iI x7)), (6, .int (iI x6)), (5, .int (iI x5)), (4, .int (iI x4)), (3, .int (iI x3)), (2, .int (iI (T : Int))), (0, .ref b), (1, .ref a)]) rfl) ?_
      refine pe_few (lv := [(11, .int (iI (v : Int))), (10, .int (iI (u : Int))), (9, .ref q), (8, .int (iI (x8 + 1))), (7, .int (iI x7)), (6, .int (iI x6)), (5, .int (iI x5)), (4, .int (iI x4)), (3, .int (iI x3)), (2, .int (iI (T : Int))), (0, .ref b), (1, .ref a)]) rfl rfl (by intro q hq; simp only [List.mem_cons, List.not_mem_nil, or_false] at hq; rcases hq with rfl | rfl | rfl | rfl | rfl | rfl | rfl | rfl | rfl | rfl | rfl | rfl <;> rfl) ?_
      exact KK1 (Or.inr ⟨hc, by first | exact Or.inl (by assumption) | exact Or.inr (by assumption)⟩)
    · skip
      refine pe_go rfl (s_ifne_false (decide_eq_false b1)) ?_
      refine pe_go (pc := 893) rfl (s_aload_n rfl) ?_
      refine pe_go (pc := 894) rfl (s_getf (v := .ref pa) h0 rfl) ?_
      refine pe_go (pc := 897) rfl (s_iload rfl) ?_
      refine pe_go (pc := 899) rfl (s_aald h1 (k := s) (by omega) (by omega) ers) ?_
      refine pe_go (pc := 900) rfl (s_aload rfl) ?_
      refine pe_call rfl (s_invS rfl rfl rfl) (w_ahead hrs hru (hO.1.sq hs) (hO.1.sq hu)) ?_
      by_cases b2 : S.ahd s u
      · skip
        refine pe_go rfl (s_ifeq_true (decide_eq_true b2)) ?_
        refine pe_go (pc := 908) rfl (s_iconst (z := 1) rfl) ?_
        refine pe_go (pc := 909) rfl s_goto ?_
        refine pe_go (pc := 913) rfl (s_istore (lv' := [(21, .int (iI 1)), (20, .ref ru), (18, .long (lI (S.lin u v r s))), (17, .int (iI (s : Int))), (16, .int (iI (r : Int))), (12, .int (iI 1)), (11, .int (iI (v : Int))), (10, .int (iI (u : Int))), (9, .ref q), (8, .int (iI x8)), (7, .int (iI x7)), (6, .int (iI x6)), (5, .int (iI x5)), (4, .int (iI x4)), (3, .int (iI x3)), (2, .int (iI (T : Int))), (0, .ref b), (1, .ref a)]) rfl) ?_
        refine pe_go (pc := 915) rfl (s_iload rfl) ?_
        refine pe_go rfl (s_if_eq_f ⟨by decide, by decide⟩ (by decide)) ?_
        refine pe_go (pc := 920) rfl (s_iload rfl) ?_
        refine pe_go rfl (s_if_ne_t ⟨by decide, by decide⟩ (by decide)) ?_
        refine pe_go (pc := 927) rfl (s_iload rfl) ?_
        refine pe_go (pc := 929) rfl (s_iload rfl) ?_
        refine pe_go rfl (s_if_eq_f ⟨by decide, by decide⟩ (by decide)) ?_
        refine pe_go (pc := 934) rfl (s_iconst (z := 1) rfl) ?_
        refine pe_go (pc := 935) rfl s_goto ?_
        refine pe_go (pc := 939) rfl s_iadd ?_
        refine pe_go (pc := 940) rfl (s_istore (lv' := [(8, .int (iI (x8 + 1))), (21, .int (iI 1)), (20, .ref ru), (18, .long (lI (S.lin u v r s))), (17, .int (iI (s : Int))), (16, .int (iI (r : Int))), (12, .int (iI 1)), (11, .int (iI (v : Int))), (10, .int (iI (u : Int))), (9, .ref q), (7, .int (iI x7)), (6, .int (iI x6)), (5, .int (iI x5)), (4, .int (iI x4)), (3, .int (iI x3)), (2, .int (iI (T : Int))), (0, .ref b), (1, .ref a)]) rfl) ?_
        refine pe_few (lv := [(11, .int (iI (v : Int))), (10, .int (iI (u : Int))), (9, .ref q), (8, .int (iI (x8 + 1))), (7, .int (iI x7)), (6, .int (iI x6)), (5, .int (iI x5)), (4, .int (iI x4)), (3, .int (iI x3)), (2, .int (iI (T : Int))), (0, .ref b), (1, .ref a)]) rfl rfl (by intro q hq; simp only [List.mem_cons, List.not_mem_nil, or_false] at hq; rcases hq with rfl | rfl | rfl | rfl | rfl | rfl | rfl | rfl | rfl | rfl | rfl | rfl <;> rfl) ?_
        exact KK1 (Or.inr ⟨hc, by first | exact Or.inl (by assumption) | exact Or.inr (by assumption)⟩)
      · skip
        refine pe_go rfl (s_ifeq_false (decide_eq_false b2)) ?_
        refine pe_go (pc := 912) rfl (s_iconst (z := 0) rfl) ?_
        refine pe_go (pc := 913) rfl (s_istore (lv' := [(21, .int (iI 0)), (20, .ref ru), (18, .long (lI (S.lin u v r s))), (17, .int (iI (s : Int))), (16, .int (iI (r : Int))), (12, .int (iI 1)), (11, .int (iI (v : Int))), (10, .int (iI (u : Int))), (9, .ref q), (8, .int (iI x8)), (7, .int (iI x7)), (6, .int (iI x6)), (5, .int (iI x5)), (4, .int (iI x4)), (3, .int (iI x3)), (2, .int (iI (T : Int))), (0, .ref b), (1, .ref a)]) rfl) ?_
        refine pe_go (pc := 915) rfl (s_iload rfl) ?_
        refine pe_go rfl (s_if_eq_t ⟨by decide, by decide⟩ (by decide)) ?_
        refine pe_go (pc := 927) rfl (s_iload rfl) ?_
        refine pe_go (pc := 929) rfl (s_iload rfl) ?_
        refine pe_go rfl (s_if_eq_t ⟨by decide, by decide⟩ (by decide)) ?_
        refine pe_go (pc := 938) rfl (s_iconst (z := 0) rfl) ?_
        refine pe_go (pc := 939) rfl s_iadd0 ?_
        refine pe_go (pc := 940) rfl (s_istore (lv' := [(8, .int (iI x8)), (21, .int (iI 0)), (20, .ref ru), (18, .long (lI (S.lin u v r s))), (17, .int (iI (s : Int))), (16, .int (iI (r : Int))), (12, .int (iI 1)), (11, .int (iI (v : Int))), (10, .int (iI (u : Int))), (9, .ref q), (7, .int (iI x7)), (6, .int (iI x6)), (5, .int (iI x5)), (4, .int (iI x4)), (3, .int (iI x3)), (2, .int (iI (T : Int))), (0, .ref b), (1, .ref a)]) rfl) ?_
        refine pe_few (lv := [(11, .int (iI (v : Int))), (10, .int (iI (u : Int))), (9, .ref q), (8, .int (iI x8)), (7, .int (iI x7)), (6, .int (iI x6)), (5, .int (iI x5)), (4, .int (iI x4)), (3, .int (iI x3)), (2, .int (iI (T : Int))), (0, .ref b), (1, .ref a)]) rfl rfl (by intro q hq; simp only [List.mem_cons, List.not_mem_nil, or_false] at hq; rcases hq with rfl | rfl | rfl | rfl | rfl | rfl | rfl | rfl | rfl | rfl | rfl | rfl <;> rfl) ?_
        exact KK0 (by rintro (z | ⟨z1, z2 | z2⟩) <;> first | omega | exact absurd z2 (by assumption))
  · skip
    refine pe_go (pc := 825) rfl (s_aload_n rfl) ?_
    refine pe_go (pc := 826) rfl (s_getf (v := .ref pa) h0 rfl) ?_
    refine pe_go (pc := 829) rfl (s_iload rfl) ?_
    refine pe_go (pc := 831) rfl (s_aald h1 (k := u) (by omega) (by omega) eru) ?_
    refine pe_go (pc := 832) rfl (s_aload_n rfl) ?_
    refine pe_go (pc := 833) rfl (s_getf (v := .ref pa) h0 rfl) ?_
    refine pe_go (pc := 836) rfl (s_iload rfl) ?_
    refine pe_go (pc := 838) rfl (s_aald h1 (k := v) (by omega) (by omega) erv) ?_
    refine pe_call rfl (s_invS rfl rfl rfl) (w_ahead hru hrv (hO.1.sq hu) (hO.1.sq hv)) ?_
    refine pe_go rfl (s_ifeq_true (decide_eq_true hf)) ?_
    refine pe_go (pc := 845) rfl (s_aload_n rfl) ?_
    refine pe_go (pc := 846) rfl (s_getf (v := .ref pa) h0 rfl) ?_
    refine pe_go (pc := 849) rfl (s_iload rfl) ?_
    refine pe_go (pc := 851) rfl (s_aald h1 (k := u) (by omega) (by omega) eru) ?_
    refine pe_go (pc := 852) rfl s_goto ?_
    refine pe_go (pc := 862) rfl (s_astore (lv' := [(20, .ref ru), (18, .long (lI (S.lin u v r s))), (17, .int (iI (s : Int))), (16, .int (iI (r : Int))), (12, .int (iI 1)), (11, .int (iI (v : Int))), (10, .int (iI (u : Int))), (9, .ref q), (8, .int (iI x8)), (7, .int (iI x7)), (6, .int (iI x6)), (5, .int (iI x5)), (4, .int (iI x4)), (3, .int (iI x3)), (2, .int (iI (T : Int))), (0, .ref b), (1, .ref a)]) rfl) ?_
    refine pe_go (pc := 864) rfl (s_lload rfl) ?_
    refine pe_go (pc := 866) rfl s_lconst0 ?_
    refine pe_go rfl (s_lcmp_gt ⟨by omega, by omega⟩ ⟨by omega, by omega⟩ hc) ?_
    refine pe_go rfl (s_if_gt_t ⟨by decide, by decide⟩ (by decide)) ?_
    refine pe_go (pc := 908) rfl (s_iconst (z := 1) rfl) ?_
    refine pe_go (pc := 909) rfl s_goto ?_
    refine pe_go (pc := 913) rfl (s_istore (lv' := [(21, .int (iI 1)), (20, .ref ru), (18, .long (lI (S.lin u v r s))), (17, .int (iI (s : Int))), (16, .int (iI (r : Int))), (12, .int (iI 1)), (11, .int (iI (v : Int))), (10, .int (iI (u : Int))), (9, .ref q), (8, .int (iI x8)), (7, .int (iI x7)), (6, .int (iI x6)), (5, .int (iI x5)), (4, .int (iI x4)), (3, .int (iI x3)), (2, .int (iI (T : Int))), (0, .ref b), (1, .ref a)]) rfl) ?_
    refine pe_go (pc := 915) rfl (s_iload rfl) ?_
    refine pe_go rfl (s_if_eq_f ⟨by decide, by decide⟩ (by decide)) ?_
    refine pe_go (pc := 920) rfl (s_iload rfl) ?_
    refine pe_go rfl (s_if_ne_t ⟨by decide, by decide⟩ (by decide)) ?_
    refine pe_go (pc := 927) rfl (s_iload rfl) ?_
    refine pe_go (pc := 929) rfl (s_iload rfl) ?_
    refine pe_go rfl (s_if_eq_f ⟨by decide, by decide⟩ (by decide)) ?_
    refine pe_go (pc := 934) rfl (s_iconst (z := 1) rfl) ?_
    refine pe_go (pc := 935) rfl s_goto ?_
    refine pe_go (pc := 939) rfl s_iadd ?_
    refine pe_go (pc := 940) rfl (s_istore (lv' := [(8, .int (iI (x8 + 1))), (21, .int (iI 1)), (20, .ref ru), (18, .long (lI (S.lin u v r s))), (17, .int (iI (s : Int))), (16, .int (iI (r : Int))), (12, .int (iI 1)), (11, .int (iI (v : Int))), (10, .int (iI (u : Int))), (9, .ref q), (7, .int (iI x7)), (6, .int (iI x6)), (5, .int (iI x5)), (4, .int (iI x4)), (3, .int (iI x3)), (2, .int (iI (T : Int))), (0, .ref b), (1, .ref a)]) rfl) ?_
    refine pe_few (lv := [(11, .int (iI (v : Int))), (10, .int (iI (u : Int))), (9, .ref q), (8, .int (iI (x8 + 1))), (7, .int (iI x7)), (6, .int (iI x6)), (5, .int (iI x5)), (4, .int (iI x4)), (3, .int (iI x3)), (2, .int (iI (T : Int))), (0, .ref b), (1, .ref a)]) rfl rfl (by intro q hq; simp only [List.mem_cons, List.not_mem_nil, or_false] at hq; rcases hq with rfl | rfl | rfl | rfl | rfl | rfl | rfl | rfl | rfl | rfl | rfl | rfl <;> rfl) ?_
    exact KK1 (Or.inl hc)
theorem l_bad1v {w : pW} {pre post : pW} {b : Nat} (hb : pre.length = b) {S : St} {L M : List St} {K : St} (hO : OB pre post b S L M K w) {O Q : Nat → Prop} {a : Nat} {X : Sh} {pa fa ha : Nat} {pf gf hf : Nat → Option Nat} {ff : Nat → Nat} (hS : shP w O Q a X pa fa ha pf gf hf ff) {q : Nat} {x3 x4 x5 x6 x7 x8 : Int} {T : Nat} {Φ : Option Value → pW → Prop} {u v r s : Nat} (hu : u < 40) (hv : v < 40) (hr : r < 40) (hs : s < 40) (su : S.has u) (sv : S.has v) (sr : S.has r) (ss : S.has s) (hR : Rel S X) (hf : ¬ S.ahd u v)  (KK1 : (0 < S.lin u v r s ∨ (S.lin u v r s = 0 ∧ (S.ahd r v ∨ S.ahd s v))) → qE 151 (942, [(11, .int (iI (v : Int))), (10, .int (iI (u : Int))), (9, .ref q), (8, .int (iI (x8 + 1))), (7, .int (iI x7)), (6, .int (iI x6)), (5, .int (iI x5)), (4, .int (iI x4)), (3, .int (iI x3)), (2, .int (iI (T : Int))), (0, .ref b), (1, .ref a)], [], w) Φ) (KK0 : ¬ (0 < S.lin u v r s ∨ (S.lin u v r s = 0 ∧ (S.ahd r v ∨ S.ahd s v))) → qE 151 (942, [(11, .int (iI (v : Int))), (10, .int (iI (u : Int))), (9, .ref q), (8, .int (iI x8)), (7, .int (iI x7)), (6, .int (iI x6)), (5, .int (iI x5)), (4, .int (iI x4)), (3, .int (iI x3)), (2, .int (iI (T : Int))), (0, .ref b), (1, .ref a)], [], w) Φ) : qE 151 (825, [(18, .long (lI (S.lin u v r s))), (17, .int (iI (s : Int))), (16, .int (iI (r : Int))), (12, .int (iI 1)), (11, .int (iI (v : Int))), (10, .int (iI (u : Int))), (9, .ref q), (8, .int (iI x8)), (7, .int (iI x7)), (6, .int (iI x6)), (5, .int (iI x5)), (4, .int (iI x4)), (3, .int (iI x3)), (2, .int (iI (T : Int))), (0, .ref b), (1, .ref a)], [], w) Φ := by
  obtain ⟨hb9, h0, h1, h2, h3, h4, h5, h6, h7, h8, h9⟩ := hS
  obtain ⟨ru, eru, -, hru⟩ := h3 u _ _ _ hu (hR.pt hu su)
  have bu := hO.1.B u hu
  obtain ⟨rv, erv, -, hrv⟩ := h3 v _ _ _ hv (hR.pt hv sv)
  have bv := hO.1.B v hv
  obtain ⟨rr, err, -, hrr⟩ := h3 r _ _ _ hr (hR.pt hr sr)
  have br := hO.1.B r hr
  obtain ⟨rs, ers, -, hrs⟩ := h3 s _ _ _ hs (hR.pt hs ss)
  have bs := hO.1.B s hs
  have hD := hO.1.lin_b hu hv hr hs
  rcases Int.lt_trichotomy (S.lin u v r s) 0 with hc | hc | hc
  · skip
    refine pe_go (pc := 825) rfl (s_aload_n rfl) ?_
    refine pe_go (pc := 826) rfl (s_getf (v := .ref pa) h0 rfl) ?_
    refine pe_go (pc := 829) rfl (s_iload rfl) ?_
    refine pe_go (pc := 831) rfl (s_aald h1 (k := u) (by omega) (by omega) eru) ?_
    refine pe_go (pc := 832) rfl (s_aload_n rfl) ?_
    refine pe_go (pc := 833) rfl (s_getf (v := .ref pa) h0 rfl) ?_
    refine pe_go (pc := 836) rfl (s_iload rfl) ?_
    refine pe_go (pc := 838) rfl (s_aald h1 (k := v) (by omega) (by omega) erv) ?_
    refine pe_call rfl (s_invS rfl rfl rfl) (w_ahead hru hrv (hO.1.sq hu) (hO.1.sq hv)) ?_
    refine pe_go rfl (s_ifeq_false (decide_eq_false hf)) ?_
    refine pe_go (pc := 855) rfl (s_aload_n rfl) ?_
    refine pe_go (pc := 856) rfl (s_getf (v := .ref pa) h0 rfl) ?_
    refine pe_go (pc := 859) rfl (s_iload rfl) ?_
    refine pe_go (pc := 861) rfl (s_aald h1 (k := v) (by omega) (by omega) erv) ?_
    refine pe_go (pc := 862) rfl (s_astore (lv' := [(20, .ref rv), (18, .long (lI (S.lin u v r s))), (17, .int (iI (s : Int))), (16, .int (iI (r : Int))), (12, .int (iI 1)), (11, .int (iI (v : Int))), (10, .int (iI (u : Int))), (9, .ref q), (8, .int (iI x8)), (7, .int (iI x7)), (6, .int (iI x6)), (5, .int (iI x5)), (4, .int (iI x4)), (3, .int (iI x3)), (2, .int (iI (T : Int))), (0, .ref b), (1, .ref a)]) rfl) ?_
    refine pe_go (pc := 864) rfl (s_lload rfl) ?_
    refine pe_go (pc := 866) rfl s_lconst0 ?_
    refine pe_go rfl (s_lcmp_lt ⟨by omega, by omega⟩ ⟨by omega, by omega⟩ hc) ?_
    refine pe_go rfl (s_if_gt_f ⟨by decide, by decide⟩ (by decide)) ?_
    refine pe_go (pc := 871) rfl (s_lload rfl) ?_
    refine pe_go (pc := 873) rfl s_lconst0 ?_
    refine pe_go rfl (s_lcmp_lt ⟨by omega, by omega⟩ ⟨by omega, by omega⟩ hc) ?_
    refine pe_go rfl (s_if_ne_t ⟨by decide, by decide⟩ (by decide)) ?_
    refine pe_go (pc := 912) rfl (s_iconst (z := 0) rfl) ?_
    refine pe_go (pc := 913) rfl (s_istore (lv' := [(21, .int (iI 0)), (20, .ref rv), (18, .long (lI (S.lin u v r s))), (17, .int (iI (s : Int))), (16, .int (iI (r : Int))), (12, .int (iI 1)), (11, .int (iI (v : Int))), (10, .int (iI (u : Int))), (9, .ref q), (8, .int (iI x8)), (7, .int (iI x7)), (6, .int (iI x6)), (5, .int (iI x5)), (4, .int (iI x4)), (3, .int (iI x3)), (2, .int (iI (T : Int))), (0, .ref b), (1, .ref a)]) rfl) ?_
    refine pe_go (pc := 915) rfl (s_iload rfl) ?_
    refine pe_go rfl (s_if_eq_t ⟨by decide, by decide⟩ (by decide)) ?_
    refine pe_go (pc := 927) rfl (s_iload rfl) ?_
    refine pe_go (pc := 929) rfl (s_iload rfl) ?_
    refine pe_go rfl (s_if_eq_t ⟨by decide, by decide⟩ (by decide)) ?_
    refine pe_go (pc := 938) rfl (s_iconst (z := 0) rfl) ?_
    refine pe_go (pc := 939) rfl s_iadd0 ?_
    refine pe_go (pc := 940) rfl (s_istore (lv' := [(8, .int (iI x8)), (21, .int (iI 0)), (20, .ref rv), (18, .long (lI (S.lin u v r s))), (17, .int (iI (s : Int))), (16, .int (iI (r : Int))), (12, .int (iI 1)), (11, .int (iI (v : Int))), (10, .int (iI (u : Int))), (9, .ref q), (7, .int (iI x7)), (6, .int (iI x6)), (5, .int (iI x5)), (4, .int (iI x4)), (3, .int (iI x3)), (2, .int (iI (T : Int))), (0, .ref b), (1, .ref a)]) rfl) ?_
    refine pe_few (lv := [(11, .int (iI (v : Int))), (10, .int (iI (u : Int))), (9, .ref q), (8, .int (iI x8)), (7, .int (iI x7)), (6, .int (iI x6)), (5, .int (iI x5)), (4, .int (iI x4)), (3, .int (iI x3)), (2, .int (iI (T : Int))), (0, .ref b), (1, .ref a)]) rfl rfl (by intro q hq; simp only [List.mem_cons, List.not_mem_nil, or_false] at hq; rcases hq with rfl | rfl | rfl | rfl | rfl | rfl | rfl | rfl | rfl | rfl | rfl | rfl <;> rfl) ?_
    exact KK0 (by rintro (z | ⟨z1, z2 | z2⟩) <;> first | omega | exact absurd z2 (by assumption))
  · skip
    refine pe_go (pc := 825) rfl (s_aload_n rfl) ?_
    refine pe_go (pc := 826) rfl (s_getf (v := .ref pa) h0 rfl) ?_
    refine pe_go (pc := 829) rfl (s_iload rfl) ?_
    refine pe_go (pc := 831) rfl (s_aald h1 (k := u) (by omega) (by omega) eru) ?_
    refine pe_go (pc := 832) rfl (s_aload_n rfl) ?_
    refine pe_go (pc := 833) rfl (s_getf (v := .ref pa) h0 rfl) ?_
    refine pe_go (pc := 836) rfl (s_iload rfl) ?_
    refine pe_go (pc := 838) rfl (s_aald h1 (k := v) (by omega) (by omega) erv) ?_
    refine pe_call rfl (s_invS rfl rfl rfl) (w_ahead hru hrv (hO.1.sq hu) (hO.1.sq hv)) ?_
    refine pe_go rfl (s_ifeq_false (decide_eq_false hf)) ?_
    refine pe_go (pc := 855) rfl (s_aload_n rfl) ?_
    refine pe_go (pc := 856) rfl (s_getf (v := .ref pa) h0 rfl) ?_
    refine pe_go (pc := 859) rfl (s_iload rfl) ?_
    refine pe_go (pc := 861) rfl (s_aald h1 (k := v) (by omega) (by omega) erv) ?_
    refine pe_go (pc := 862) rfl (s_astore (lv' := [(20, .ref rv), (18, .long (lI (S.lin u v r s))), (17, .int (iI (s : Int))), (16, .int (iI (r : Int))), (12, .int (iI 1)), (11, .int (iI (v : Int))), (10, .int (iI (u : Int))), (9, .ref q), (8, .int (iI x8)), (7, .int (iI x7)), (6, .int (iI x6)), (5, .int (iI x5)), (4, .int (iI x4)), (3, .int (iI x3)), (2, .int (iI (T : Int))), (0, .ref b), (1, .ref a)]) rfl) ?_
    refine pe_go (pc := 864) rfl (s_lload rfl) ?_
    refine pe_go (pc := 866) rfl s_lconst0 ?_
    refine pe_go rfl (s_lcmp_eq hc) ?_
    refine pe_go rfl (s_if_gt_f ⟨by decide, by decide⟩ (by decide)) ?_
    refine pe_go (pc := 871) rfl (s_lload rfl) ?_
    refine pe_go (pc := 873) rfl s_lconst0 ?_
    refine pe_go rfl (s_lcmp_eq hc) ?_
    refine pe_go rfl (s_if_ne_f ⟨by decide, by decide⟩ (by decide)) ?_
    refine pe_go (pc := 878) rfl (s_aload_n rfl) ?_
    refine pe_go (pc := 879) rfl (s_getf (v := .ref pa) h0 rfl) ?_
    refine pe_go (pc := 882) rfl (s_iload rfl) ?_
    refine pe_go (pc := 884) rfl (s_aald h1 (k := r) (by omega) (by omega) err) ?_
    refine pe_go (pc := 885) rfl (s_aload rfl) ?_
    refine pe_call rfl (s_invS rfl rfl rfl) (w_ahead hrr hrv (hO.1.sq hr) (hO.1.sq hv)) ?_
    by_cases b1 : S.ahd r v
    · skip
      refine pe_go rfl (s_ifne_true (decide_eq_true b1)) ?_
      refine pe_go (pc := 908) rfl (s_iconst (z := 1) rfl) ?_
      refine pe_go (pc := 909) rfl s_goto ?_
      refine pe_go (pc := 913) rfl (s_istore (lv' := [(21, .int (iI 1)), (20, .ref rv), (18, .long (lI (S.lin u v r s))), (17, .int (iI (s : Int))), (16, .int (iI (r : Int))), (12, .int (iI 1)), (11, .int (iI (v : Int))), (10, .int (iI (u : Int))), (9, .ref q), (8, .int (iI x8)), (7, .int (iI x7)), (6, .int (iI x6)), (5, .int (iI x5)), (4, .int (iI x4)), (3, .int (iI x3)), (2, .int (iI (T : Int))), (0, .ref b), (1, .ref a)]) rfl) ?_
      refine pe_go (pc := 915) rfl (s_iload rfl) ?_
      refine pe_go rfl (s_if_eq_f ⟨by decide, by decide⟩ (by decide)) ?_
      refine pe_go (pc := 920) rfl (s_iload rfl) ?_
      refine pe_go rfl (s_if_ne_t ⟨by decide, by decide⟩ (by decide)) ?_
      refine pe_go (pc := 927) rfl (s_iload rfl) ?_
      refine pe_go (pc := 929) rfl (s_iload rfl) ?_
      refine pe_go rfl (s_if_eq_f ⟨by decide, by decide⟩ (by decide)) ?_
      refine pe_go (pc := 934) rfl (s_iconst (z := 1) rfl) ?_
      refine pe_go (pc := 935) rfl s_goto ?_
      refine pe_go (pc := 939) rfl s_iadd ?_
      refine pe_go (pc := 940) rfl (s_istore (lv' := [(8, .int (iI (x8 + 1))), (21, .int (iI 1)), (20, .ref rv), (18, .long (lI (S.lin u v r s))), (17, .int (iI (s : Int))), (16, .int (iI (r : Int))), (12, .int (iI 1)), (11, .int (iI (v : Int))), (10, .int (iI (u : Int))), (9, .ref q), (7, .int (iI x7)), (6, .int (iI x6)), (5, .int (iI x5)), (4, .int (iI x4)), (3, .int (iI x3)), (2, .int (iI (T : Int))), (0, .ref b), (1, .ref a)]) rfl) ?_
      refine pe_few (lv := [(11, .int (iI (v : Int))), (10, .int (iI (u : Int))), (9, .ref q), (8, .int (iI (x8 + 1))), (7, .int (iI x7)), (6, .int (iI x6)), (5, .int (iI x5)), (4, .int (iI x4)), (3, .int (iI x3)), (2, .int (iI (T : Int))), (0, .ref b), (1, .ref a)]) rfl rfl (by intro q hq; simp only [List.mem_cons, List.not_mem_nil, or_false] at hq; rcases hq with rfl | rfl | rfl | rfl | rfl | rfl | rfl | rfl | rfl | rfl | rfl | rfl <;> rfl) ?_
      exact KK1 (Or.inr ⟨hc, by first | exact Or.inl (by assumption) | exact Or.inr (by assumption)⟩)
    · skip
      refine pe_go rfl (s_ifne_false (decide_eq_false b1)) ?_
      refine pe_go (pc := 893) rfl (s_aload_n rfl) ?_
      refine pe_go (pc := 894) rfl (s_getf (v := .ref pa) h0 rfl) ?_
      refine pe_go (pc := 897) rfl (s_iload rfl) ?_
      refine pe_go (pc := 899) rfl (s_aald h1 (k := s) (by omega) (by omega) ers) ?_
      refine pe_go (pc := 900) rfl (s_aload rfl) ?_
      refine pe_call rfl (s_invS rfl rfl rfl) (w_ahead hrs hrv (hO.1.sq hs) (hO.1.sq hv)) ?_
      by_cases b2 : S.ahd s v
      · skip
        refine pe_go rfl (s_ifeq_true (decide_eq_true b2)) ?_
        refine pe_go (pc := 908) rfl (s_iconst (z := 1) rfl) ?_
        refine pe_go (pc := 909) rfl s_goto ?_
        refine pe_go (pc := 913) rfl (s_istore (lv' := [(21, .int (iI 1)), (20, .ref rv), (18, .long (lI (S.lin u v r s))), (17, .int (iI (s : Int))), (16, .int (iI (r : Int))), (12, .int (iI 1)), (11, .int (iI (v : Int))), (10, .int (iI (u : Int))), (9, .ref q), (8, .int (iI x8)), (7, .int (iI x7)), (6, .int (iI x6)), (5, .int (iI x5)), (4, .int (iI x4)), (3, .int (iI x3)), (2, .int (iI (T : Int))), (0, .ref b), (1, .ref a)]) rfl) ?_
        refine pe_go (pc := 915) rfl (s_iload rfl) ?_
        refine pe_go rfl (s_if_eq_f ⟨by decide, by decide⟩ (by decide)) ?_
        refine pe_go (pc := 920) rfl (s_iload rfl) ?_
        refine pe_go rfl (s_if_ne_t ⟨by decide, by decide⟩ (by decide)) ?_
        refine pe_go (pc := 927) rfl (s_iload rfl) ?_
        refine pe_go (pc := 929) rfl (s_iload rfl) ?_
        refine pe_go rfl (s_if_eq_f ⟨by decide, by decide⟩ (by decide)) ?_
        refine pe_go (pc := 934) rfl (s_iconst (z := 1) rfl) ?_
        refine pe_go (pc := 935) rfl s_goto ?_
        refine pe_go (pc := 939) rfl s_iadd ?_
        refine pe_go (pc := 940) rfl (s_istore (lv' := [(8, .int (iI (x8 + 1))), (21, .int (iI 1)), (20, .ref rv), (18, .long (lI (S.lin u v r s))), (17, .int (iI (s : Int))), (16, .int (iI (r : Int))), (12, .int (iI 1)), (11, .int (iI (v : Int))), (10, .int (iI (u : Int))), (9, .ref q), (7, .int (iI x7)), (6, .int (iI x6)), (5, .int (iI x5)), (4, .int (iI x4)), (3, .int (iI x3)), (2, .int (iI (T : Int))), (0, .ref b), (1, .ref a)]) rfl) ?_
        refine pe_few (lv := [(11, .int (iI (v : Int))), (10, .int (iI (u : Int))), (9, .ref q), (8, .int (iI (x8 + 1))), (7, .int (iI x7)), (6, .int (iI x6)), (5, .int (iI x5)), (4, .int (iI x4)), (3, .int (iI x3)), (2, .int (iI (T : Int))), (0, .ref b), (1, .ref a)]) rfl rfl (by intro q hq; simp only [List.mem_cons, List.not_mem_nil, or_false] at hq; rcases hq with rfl | rfl | rfl | rfl | rfl | rfl | rfl | rfl | rfl | rfl | rfl | rfl <;> rfl) ?_
        exact KK1 (Or.inr ⟨hc, by first | exact Or.inl (by assumption) | exact Or.inr (by assumption)⟩)
      · skip
        refine pe_go rfl (s_ifeq_false (decide_eq_false b2)) ?_
        refine pe_go (pc := 912) rfl (s_iconst (z := 0) rfl) ?_
        refine pe_go (pc := 913) rfl (s_istore (lv' := [(21, .int (iI 0)), (20, .ref rv), (18, .long (lI (S.lin u v r s))), (17, .int (iI (s : Int))), (16, .int (iI (r : Int))), (12, .int (iI 1)), (11, .int (iI (v : Int))), (10, .int (iI (u : Int))), (9, .ref q), (8, .int (iI x8)), (7, .int (iI x7)), (6, .int (iI x6)), (5, .int (iI x5)), (4, .int (iI x4)), (3, .int (iI x3)), (2, .int (iI (T : Int))), (0, .ref b), (1, .ref a)]) rfl) ?_
        refine pe_go (pc := 915) rfl (s_iload rfl) ?_
        refine pe_go rfl (s_if_eq_t ⟨by decide, by decide⟩ (by decide)) ?_
        refine pe_go (pc := 927) rfl (s_iload rfl) ?_
        refine pe_go (pc := 929) rfl (s_iload rfl) ?_
        refine pe_go rfl (s_if_eq_t ⟨by decide, by decide⟩ (by decide)) ?_
        refine pe_go (pc := 938) rfl (s_iconst (z := 0) rfl) ?_
        refine pe_go (pc := 939) rfl s_iadd0 ?_
        refine pe_go (pc := 940) rfl (s_istore (lv' := [(8, .int (iI x8)), (21, .int (iI 0)), (20, .ref rv), (18, .long (lI (S.lin u v r s))), (17, .int (iI (s : Int))), (16, .int (iI (r : Int))), (12, .int (iI 1)), (11, .int (iI (v : Int))), (10, .int (iI (u : Int))), (9, .ref q), (7, .int (iI x7)), (6, .int (iI x6)), (5, .int (iI x5)), (4, .int (iI x4)), (3, .int (iI x3)), (2, .int (iI (T : Int))), (0, .ref b), (1, .ref a)]) rfl) ?_
        refine pe_few (lv := [(11, .int (iI (v : Int))), (10, .int (iI (u : Int))), (9, .ref q), (8, .int (iI x8)), (7, .int (iI x7)), (6, .int (iI x6)), (5, .int (iI x5)), (4, .int (iI x4)), (3, .int (iI x3)), (2, .int (iI (T : Int))), (0, .ref b), (1, .ref a)]) rfl rfl (by intro q hq; simp only [List.mem_cons, List.not_mem_nil, or_false] at hq; rcases hq with rfl | rfl | rfl | rfl | rfl | rfl | rfl | rfl | rfl | rfl | rfl | rfl <;> rfl) ?_
        exact KK0 (by rintro (z | ⟨z1, z2 | z2⟩) <;> first | omega | exact absurd z2 (by assumption))
  · skip
    refine pe_go (pc := 825) rfl (s_aload_n rfl) ?_
    refine pe_go (pc := 826) rfl (s_getf (v := .ref pa) h0 rfl) ?_
    refine pe_go (pc := 829) rfl (s_iload rfl) ?_
    refine pe_go (pc := 831) rfl (s_aald h1 (k := u) (by omega) (by omega) eru) ?_
    refine pe_go (pc := 832) rfl (s_aload_n rfl) ?_
    refine pe_go (pc := 833) rfl (s_getf (v := .ref pa) h0 rfl) ?_
    refine pe_go (pc := 836) rfl (s_iload rfl) ?_
    refine pe_go (pc := 838) rfl (s_aald h1 (k := v) (by omega) (by omega) erv) ?_
    refine pe_call rfl (s_invS rfl rfl rfl) (w_ahead hru hrv (hO.1.sq hu) (hO.1.sq hv)) ?_
    refine pe_go rfl (s_ifeq_false (decide_eq_false hf)) ?_
    refine pe_go (pc := 855) rfl (s_aload_n rfl) ?_
    refine pe_go (pc := 856) rfl (s_getf (v := .ref pa) h0 rfl) ?_
    refine pe_go (pc := 859) rfl (s_iload rfl) ?_
    refine pe_go (pc := 861) rfl (s_aald h1 (k := v) (by omega) (by omega) erv) ?_
    refine pe_go (pc := 862) rfl (s_astore (lv' := [(20, .ref rv), (18, .long (lI (S.lin u v r s))), (17, .int (iI (s : Int))), (16, .int (iI (r : Int))), (12, .int (iI 1)), (11, .int (iI (v : Int))), (10, .int (iI (u : Int))), (9, .ref q), (8, .int (iI x8)), (7, .int (iI x7)), (6, .int (iI x6)), (5, .int (iI x5)), (4, .int (iI x4)), (3, .int (iI x3)), (2, .int (iI (T : Int))), (0, .ref b), (1, .ref a)]) rfl) ?_
    refine pe_go (pc := 864) rfl (s_lload rfl) ?_
    refine pe_go (pc := 866) rfl s_lconst0 ?_
    refine pe_go rfl (s_lcmp_gt ⟨by omega, by omega⟩ ⟨by omega, by omega⟩ hc) ?_
    refine pe_go rfl (s_if_gt_t ⟨by decide, by decide⟩ (by decide)) ?_
    refine pe_go (pc := 908) rfl (s_iconst (z := 1) rfl) ?_
    refine pe_go (pc := 909) rfl s_goto ?_
    refine pe_go (pc := 913) rfl (s_istore (lv' := [(21, .int (iI 1)), (20, .ref rv), (18, .long (lI (S.lin u v r s))), (17, .int (iI (s : Int))), (16, .int (iI (r : Int))), (12, .int (iI 1)), (11, .int (iI (v : Int))), (10, .int (iI (u : Int))), (9, .ref q), (8, .int (iI x8)), (7, .int (iI x7)), (6, .int (iI x6)), (5, .int (iI x5)), (4, .int (iI x4)), (3, .int (iI x3)), (2, .int (iI (T : Int))), (0, .ref b), (1, .ref a)]) rfl) ?_
    refine pe_go (pc := 915) rfl (s_iload rfl) ?_
    refine pe_go rfl (s_if_eq_f ⟨by decide, by decide⟩ (by decide)) ?_
    refine pe_go (pc := 920) rfl (s_iload rfl) ?_
    refine pe_go rfl (s_if_ne_t ⟨by decide, by decide⟩ (by decide)) ?_
    refine pe_go (pc := 927) rfl (s_iload rfl) ?_
    refine pe_go (pc := 929) rfl (s_iload rfl) ?_
    refine pe_go rfl (s_if_eq_f ⟨by decide, by decide⟩ (by decide)) ?_
    refine pe_go (pc := 934) rfl (s_iconst (z := 1) rfl) ?_
    refine pe_go (pc := 935) rfl s_goto ?_
    refine pe_go (pc := 939) rfl s_iadd ?_
    refine pe_go (pc := 940) rfl (s_istore (lv' := [(8, .int (iI (x8 + 1))), (21, .int (iI 1)), (20, .ref rv), (18, .long (lI (S.lin u v r s))), (17, .int (iI (s : Int))), (16, .int (iI (r : Int))), (12, .int (iI 1)), (11, .int (iI (v : Int))), (10, .int (iI (u : Int))), (9, .ref q), (7, .int (iI x7)), (6, .int (iI x6)), (5, .int (iI x5)), (4, .int (iI x4)), (3, .int (iI x3)), (2, .int (iI (T : Int))), (0, .ref b), (1, .ref a)]) rfl) ?_
    refine pe_few (lv := [(11, .int (iI (v : Int))), (10, .int (iI (u : Int))), (9, .ref q), (8, .int (iI (x8 + 1))), (7, .int (iI x7)), (6, .int (iI x6)), (5, .int (iI x5)), (4, .int (iI x4)), (3, .int (iI x3)), (2, .int (iI (T : Int))), (0, .ref b), (1, .ref a)]) rfl rfl (by intro q hq; simp only [List.mem_cons, List.not_mem_nil, or_false] at hq; rcases hq with rfl | rfl | rfl | rfl | rfl | rfl | rfl | rfl | rfl | rfl | rfl | rfl <;> rfl) ?_
    exact KK1 (Or.inl hc)
