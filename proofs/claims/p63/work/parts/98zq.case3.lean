/-! THE LAW: one turn: an edge fixed, freed, a height. Rows laid by program (wip/p63/wk.py, hw.py, lawcase.py, mk98zq.py). -/
theorem l_case4a {w : pW} {b n0 : Nat} (hbn : b + 57 ≤ n0) {S : St} {L M : List St} {K : St} (hk : obk w b S L M K) {c : Nat} {X : Sh} (hu : shAt w (fun i => n0 ≤ i) (fun i => ¬ inO b i) c X) (hR : Rel S X) (hlw : n0 ≤ w.length) {k n ws aw s : Nat} {x y px py grid what : Int} {Φ : Option Value → pW → Prop} {inn : Int} {q : Int} (hq : ptN q)  (KKn : ∀ w' : pW, obk w' b S L M K → agr (fun i => inO b i ∨ n0 ≤ i) w w' → gro 2000 (2 * pwsz (nP 0) + 12000) w w' → qE 158 (1559, [(9, .int (iI 0)), (8, .ref c), (5, .int (iI (k : Int))), (4, .int (iI (n : Int))), (3, .ref ws), (2, .ref aw), (1, .ref b), (0, .ref s)], [], w') Φ) : qE 158 (491, [(16, .int (iI inn)), (15, .int (iI what)), (14, .int (iI q)), (13, .int (iI (-1))), (12, .int (iI py)), (11, .int (iI px)), (10, .int (iI grid)), (9, .int (iI 1)), (8, .ref c), (7, .int (iI y)), (6, .int (iI x)), (5, .int (iI (k : Int))), (4, .int (iI (n : Int))), (3, .ref ws), (2, .ref aw), (1, .ref b), (0, .ref s)], [], w) Φ := by
  have hko := obk_ok hk
  have hIn := hR.In hko
  have hX9 := hIn.1
  obtain ⟨fb, hbo⟩ := obk_obj hk
  obtain ⟨fc, hco⟩ := sh_obj hu
  have hfs := Sh.free_sm X
  have has := Sh.at_sm X px py
  obtain ⟨pa, fa, ha, pf, gf, hf, ff, hP⟩ := id hu
  obtain ⟨E, hE, hE2⟩ := hko.E
  refine pe_go (pc := 491) rfl (s_iload rfl) ?_
  refine pe_go rfl (s_if_lt_t ⟨by decide, by decide⟩ (by decide)) ?_
  refine pe_go (pc := 560) rfl (s_iconst (z := 0) rfl) ?_
  refine pe_go (pc := 561) rfl (s_istore (lv' := [(9, .int (iI 0)), (16, .int (iI inn)), (15, .int (iI what)), (14, .int (iI q)), (13, .int (iI (-1))), (12, .int (iI py)), (11, .int (iI px)), (10, .int (iI grid)), (8, .ref c), (7, .int (iI y)), (6, .int (iI x)), (5, .int (iI (k : Int))), (4, .int (iI (n : Int))), (3, .ref ws), (2, .ref aw), (1, .ref b), (0, .ref s)]) rfl) ?_
  refine pe_go (pc := 563) rfl (s_aload_n rfl) ?_
  refine pe_go (pc := 564) rfl (s_iload rfl) ?_
  refine pe_go (pc := 566) rfl (s_iload rfl) ?_
  refine pe_callE rfl (s_invV rfl hbo rfl rfl) (k_fixN hk (x := -1) (Or.inl rfl) hq hE hE2 (fun p9 q9 h1 h2 e1 e2 => by omega)) ?_
  rintro _ w1 ⟨rfl, ho1, hc1⟩
  rw [show bI false = iI 0 from rfl]
  refine pe_go (pc := 571) rfl (s_iload rfl) ?_
  refine pe_go rfl (s_icmp_eq_t ⟨by decide, by decide⟩ ⟨by decide, by decide⟩ (by decide)) ?_
  refine pe_go (pc := 578) rfl (s_iload rfl) ?_
  refine pe_go rfl (s_if_eq_t ⟨by decide, by decide⟩ (by decide)) ?_
  refine pe_few (lv := [(9, .int (iI 0)), (8, .ref c), (5, .int (iI (k : Int))), (4, .int (iI (n : Int))), (3, .ref ws), (2, .ref aw), (1, .ref b), (0, .ref s)]) rfl rfl (by intro q hq; simp only [List.mem_cons, List.not_mem_nil, or_false] at hq; rcases hq with rfl | rfl | rfl | rfl | rfl | rfl | rfl | rfl <;> rfl) ?_
  exact KKn _ ho1 (P_chg hc1) (G_of (g_chg hc1) (by decide) (by decide))
theorem l_case4b {w : pW} {b n0 : Nat} (hbn : b + 57 ≤ n0) {S : St} {L M : List St} {K : St} (hk : obk w b S L M K) {c : Nat} {X : Sh} (hu : shAt w (fun i => n0 ≤ i) (fun i => ¬ inO b i) c X) (hR : Rel S X) (hlw : n0 ≤ w.length) {k n ws aw s : Nat} {x y px py grid what : Int} {Φ : Option Value → pW → Prop} {inn : Int} {p9 : Nat} (hp : p9 < 40)  (KKn : ∀ w' : pW, obk w' b S L M K → agr (fun i => inO b i ∨ n0 ≤ i) w w' → gro 2000 (2 * pwsz (nP 0) + 12000) w w' → qE 158 (1559, [(9, .int (iI 0)), (8, .ref c), (5, .int (iI (k : Int))), (4, .int (iI (n : Int))), (3, .ref ws), (2, .ref aw), (1, .ref b), (0, .ref s)], [], w') Φ) : qE 158 (491, [(16, .int (iI inn)), (15, .int (iI what)), (14, .int (iI (-1))), (13, .int (iI (p9 : Int))), (12, .int (iI py)), (11, .int (iI px)), (10, .int (iI grid)), (9, .int (iI 1)), (8, .ref c), (7, .int (iI y)), (6, .int (iI x)), (5, .int (iI (k : Int))), (4, .int (iI (n : Int))), (3, .ref ws), (2, .ref aw), (1, .ref b), (0, .ref s)], [], w) Φ := by
  have hko := obk_ok hk
  have hIn := hR.In hko
  have hX9 := hIn.1
  obtain ⟨fb, hbo⟩ := obk_obj hk
  obtain ⟨fc, hco⟩ := sh_obj hu
  have hfs := Sh.free_sm X
  have has := Sh.at_sm X px py
  obtain ⟨pa, fa, ha, pf, gf, hf, ff, hP⟩ := id hu
  obtain ⟨E, hE, hE2⟩ := hko.E
  refine pe_go (pc := 491) rfl (s_iload rfl) ?_
  refine pe_go rfl (s_if_lt_f ⟨by omega, by omega⟩ (by omega)) ?_
  refine pe_go (pc := 496) rfl (s_iload rfl) ?_
  refine pe_go rfl (s_if_lt_t ⟨by decide, by decide⟩ (by decide)) ?_
  refine pe_go (pc := 560) rfl (s_iconst (z := 0) rfl) ?_
  refine pe_go (pc := 561) rfl (s_istore (lv' := [(9, .int (iI 0)), (16, .int (iI inn)), (15, .int (iI what)), (14, .int (iI (-1))), (13, .int (iI (p9 : Int))), (12, .int (iI py)), (11, .int (iI px)), (10, .int (iI grid)), (8, .ref c), (7, .int (iI y)), (6, .int (iI x)), (5, .int (iI (k : Int))), (4, .int (iI (n : Int))), (3, .ref ws), (2, .ref aw), (1, .ref b), (0, .ref s)]) rfl) ?_
  refine pe_go (pc := 563) rfl (s_aload_n rfl) ?_
  refine pe_go (pc := 564) rfl (s_iload rfl) ?_
  refine pe_go (pc := 566) rfl (s_iload rfl) ?_
  refine pe_callE rfl (s_invV rfl hbo rfl rfl) (k_fixN hk (Or.inr ⟨p9, hp, rfl⟩) (y := -1) (Or.inl rfl) hE hE2 (fun p9 q9 h1 h2 e1 e2 => by omega)) ?_
  rintro _ w1 ⟨rfl, ho1, hc1⟩
  rw [show bI false = iI 0 from rfl]
  refine pe_go (pc := 571) rfl (s_iload rfl) ?_
  refine pe_go rfl (s_icmp_eq_t ⟨by decide, by decide⟩ ⟨by decide, by decide⟩ (by decide)) ?_
  refine pe_go (pc := 578) rfl (s_iload rfl) ?_
  refine pe_go rfl (s_if_eq_t ⟨by decide, by decide⟩ (by decide)) ?_
  refine pe_few (lv := [(9, .int (iI 0)), (8, .ref c), (5, .int (iI (k : Int))), (4, .int (iI (n : Int))), (3, .ref ws), (2, .ref aw), (1, .ref b), (0, .ref s)]) rfl rfl (by intro q hq; simp only [List.mem_cons, List.not_mem_nil, or_false] at hq; rcases hq with rfl | rfl | rfl | rfl | rfl | rfl | rfl | rfl <;> rfl) ?_
  exact KKn _ ho1 (P_chg hc1) (G_of (g_chg hc1) (by decide) (by decide))
theorem l_case4c {w : pW} {b n0 : Nat} (hbn : b + 57 ≤ n0) {S : St} {L M : List St} {K : St} (hk : obk w b S L M K) {c : Nat} {X : Sh} (hu : shAt w (fun i => n0 ≤ i) (fun i => ¬ inO b i) c X) (hR : Rel S X) (hlw : n0 ≤ w.length) {k n ws aw s : Nat} {x y px py grid what : Int} {Φ : Option Value → pW → Prop} {inn : Int} {p9 q9 : Nat} (hp : p9 < 40) (hq : q9 < 40) (hpq : p9 = q9)  (KKn : ∀ w' : pW, obk w' b S L M K → agr (fun i => inO b i ∨ n0 ≤ i) w w' → gro 2000 (2 * pwsz (nP 0) + 12000) w w' → qE 158 (1559, [(9, .int (iI 0)), (8, .ref c), (5, .int (iI (k : Int))), (4, .int (iI (n : Int))), (3, .ref ws), (2, .ref aw), (1, .ref b), (0, .ref s)], [], w') Φ) : qE 158 (491, [(16, .int (iI inn)), (15, .int (iI what)), (14, .int (iI (q9 : Int))), (13, .int (iI (p9 : Int))), (12, .int (iI py)), (11, .int (iI px)), (10, .int (iI grid)), (9, .int (iI 1)), (8, .ref c), (7, .int (iI y)), (6, .int (iI x)), (5, .int (iI (k : Int))), (4, .int (iI (n : Int))), (3, .ref ws), (2, .ref aw), (1, .ref b), (0, .ref s)], [], w) Φ := by
  have hko := obk_ok hk
  have hIn := hR.In hko
  have hX9 := hIn.1
  obtain ⟨fb, hbo⟩ := obk_obj hk
  obtain ⟨fc, hco⟩ := sh_obj hu
  have hfs := Sh.free_sm X
  have has := Sh.at_sm X px py
  obtain ⟨pa, fa, ha, pf, gf, hf, ff, hP⟩ := id hu
  obtain ⟨E, hE, hE2⟩ := hko.E
  have hno : ∀ p8 q8 : Nat, p8 = p9 → q8 = q9 → ¬ (S.sight p8 q8 E ∧ ¬ S.bound p8 q8) := by
    rintro p8 q8 rfl rfl z
    exact z.1.2.2.1 hpq
  refine pe_go (pc := 491) rfl (s_iload rfl) ?_
  refine pe_go rfl (s_if_lt_f ⟨by omega, by omega⟩ (by omega)) ?_
  refine pe_go (pc := 496) rfl (s_iload rfl) ?_
  refine pe_go rfl (s_if_lt_f ⟨by omega, by omega⟩ (by omega)) ?_
  refine pe_go (pc := 501) rfl (s_iload rfl) ?_
  refine pe_go (pc := 503) rfl (s_iload rfl) ?_
  refine pe_go rfl (s_icmp_eq_t ⟨by omega, by omega⟩ ⟨by omega, by omega⟩ (by omega)) ?_
  refine pe_go (pc := 560) rfl (s_iconst (z := 0) rfl) ?_
  refine pe_go (pc := 561) rfl (s_istore (lv' := [(9, .int (iI 0)), (16, .int (iI inn)), (15, .int (iI what)), (14, .int (iI (q9 : Int))), (13, .int (iI (p9 : Int))), (12, .int (iI py)), (11, .int (iI px)), (10, .int (iI grid)), (8, .ref c), (7, .int (iI y)), (6, .int (iI x)), (5, .int (iI (k : Int))), (4, .int (iI (n : Int))), (3, .ref ws), (2, .ref aw), (1, .ref b), (0, .ref s)]) rfl) ?_
  refine pe_go (pc := 563) rfl (s_aload_n rfl) ?_
  refine pe_go (pc := 564) rfl (s_iload rfl) ?_
  refine pe_go (pc := 566) rfl (s_iload rfl) ?_
  refine pe_callE rfl (s_invV rfl hbo rfl rfl) (k_fixN hk (Or.inr ⟨p9, hp, rfl⟩) (Or.inr ⟨q9, hq, rfl⟩) hE hE2 (fun p8 q8 h1 h2 e1 e2 z => hno p8 q8 (by omega) (by omega) z)) ?_
  rintro _ w1 ⟨rfl, ho1, hc1⟩
  rw [show bI false = iI 0 from rfl]
  refine pe_go (pc := 571) rfl (s_iload rfl) ?_
  refine pe_go rfl (s_icmp_eq_t ⟨by decide, by decide⟩ ⟨by decide, by decide⟩ (by decide)) ?_
  refine pe_go (pc := 578) rfl (s_iload rfl) ?_
  refine pe_go rfl (s_if_eq_t ⟨by decide, by decide⟩ (by decide)) ?_
  refine pe_few (lv := [(9, .int (iI 0)), (8, .ref c), (5, .int (iI (k : Int))), (4, .int (iI (n : Int))), (3, .ref ws), (2, .ref aw), (1, .ref b), (0, .ref s)]) rfl rfl (by intro q hq; simp only [List.mem_cons, List.not_mem_nil, or_false] at hq; rcases hq with rfl | rfl | rfl | rfl | rfl | rfl | rfl | rfl <;> rfl) ?_
  exact KKn _ ho1 (P_chg hc1) (G_of (g_chg hc1) (by decide) (by decide))
theorem l_case4d {w : pW} {b n0 : Nat} (hbn : b + 57 ≤ n0) {S : St} {L M : List St} {K : St} (hk : obk w b S L M K) {c : Nat} {X : Sh} (hu : shAt w (fun i => n0 ≤ i) (fun i => ¬ inO b i) c X) (hR : Rel S X) (hlw : n0 ≤ w.length) {k n ws aw s : Nat} {x y px py grid what : Int} {Φ : Option Value → pW → Prop} {inn : Int} {p9 q9 : Nat} (hp : p9 < 40) (hq : q9 < 40) (hpq : p9 ≠ q9) (sp : ¬ S.has p9)  (KKn : ∀ w' : pW, obk w' b S L M K → agr (fun i => inO b i ∨ n0 ≤ i) w w' → gro 2000 (2 * pwsz (nP 0) + 12000) w w' → qE 158 (1559, [(9, .int (iI 0)), (8, .ref c), (5, .int (iI (k : Int))), (4, .int (iI (n : Int))), (3, .ref ws), (2, .ref aw), (1, .ref b), (0, .ref s)], [], w') Φ) : qE 158 (491, [(16, .int (iI inn)), (15, .int (iI what)), (14, .int (iI (q9 : Int))), (13, .int (iI (p9 : Int))), (12, .int (iI py)), (11, .int (iI px)), (10, .int (iI grid)), (9, .int (iI 1)), (8, .ref c), (7, .int (iI y)), (6, .int (iI x)), (5, .int (iI (k : Int))), (4, .int (iI (n : Int))), (3, .ref ws), (2, .ref aw), (1, .ref b), (0, .ref s)], [], w) Φ := by
  have hko := obk_ok hk
  have hIn := hR.In hko
  have hX9 := hIn.1
  obtain ⟨fb, hbo⟩ := obk_obj hk
  obtain ⟨fc, hco⟩ := sh_obj hu
  have hfs := Sh.free_sm X
  have has := Sh.at_sm X px py
  obtain ⟨pa, fa, ha, pf, gf, hf, ff, hP⟩ := id hu
  obtain ⟨E, hE, hE2⟩ := hko.E
  have hno : ∀ p8 q8 : Nat, p8 = p9 → q8 = q9 → ¬ (S.sight p8 q8 E ∧ ¬ S.bound p8 q8) := by
    rintro p8 q8 rfl rfl z
    exact sp z.1.1
  have ep := hP.2.2.2.1 p9 hp (hR.no hp sp)
  refine pe_go (pc := 491) rfl (s_iload rfl) ?_
  refine pe_go rfl (s_if_lt_f ⟨by omega, by omega⟩ (by omega)) ?_
  refine pe_go (pc := 496) rfl (s_iload rfl) ?_
  refine pe_go rfl (s_if_lt_f ⟨by omega, by omega⟩ (by omega)) ?_
  refine pe_go (pc := 501) rfl (s_iload rfl) ?_
  refine pe_go (pc := 503) rfl (s_iload rfl) ?_
  refine pe_go rfl (s_icmp_eq_f ⟨by omega, by omega⟩ ⟨by omega, by omega⟩ (by omega)) ?_
  refine pe_go (pc := 508) rfl (s_aload rfl) ?_
  refine pe_go (pc := 510) rfl (s_getf (v := .ref pa) hP.2.1 rfl) ?_
  refine pe_go (pc := 513) rfl (s_iload rfl) ?_
  refine pe_go (pc := 515) rfl (s_aaldN hP.2.2.1 (k := p9) (by omega) (by omega) ep) ?_
  refine pe_go (pc := 516) rfl s_ifnull_t ?_
  refine pe_go (pc := 560) rfl (s_iconst (z := 0) rfl) ?_
  refine pe_go (pc := 561) rfl (s_istore (lv' := [(9, .int (iI 0)), (16, .int (iI inn)), (15, .int (iI what)), (14, .int (iI (q9 : Int))), (13, .int (iI (p9 : Int))), (12, .int (iI py)), (11, .int (iI px)), (10, .int (iI grid)), (8, .ref c), (7, .int (iI y)), (6, .int (iI x)), (5, .int (iI (k : Int))), (4, .int (iI (n : Int))), (3, .ref ws), (2, .ref aw), (1, .ref b), (0, .ref s)]) rfl) ?_
  refine pe_go (pc := 563) rfl (s_aload_n rfl) ?_
  refine pe_go (pc := 564) rfl (s_iload rfl) ?_
  refine pe_go (pc := 566) rfl (s_iload rfl) ?_
  refine pe_callE rfl (s_invV rfl hbo rfl rfl) (k_fixN hk (Or.inr ⟨p9, hp, rfl⟩) (Or.inr ⟨q9, hq, rfl⟩) hE hE2 (fun p8 q8 h1 h2 e1 e2 z => hno p8 q8 (by omega) (by omega) z)) ?_
  rintro _ w1 ⟨rfl, ho1, hc1⟩
  rw [show bI false = iI 0 from rfl]
  refine pe_go (pc := 571) rfl (s_iload rfl) ?_
  refine pe_go rfl (s_icmp_eq_t ⟨by decide, by decide⟩ ⟨by decide, by decide⟩ (by decide)) ?_
  refine pe_go (pc := 578) rfl (s_iload rfl) ?_
  refine pe_go rfl (s_if_eq_t ⟨by decide, by decide⟩ (by decide)) ?_
  refine pe_few (lv := [(9, .int (iI 0)), (8, .ref c), (5, .int (iI (k : Int))), (4, .int (iI (n : Int))), (3, .ref ws), (2, .ref aw), (1, .ref b), (0, .ref s)]) rfl rfl (by intro q hq; simp only [List.mem_cons, List.not_mem_nil, or_false] at hq; rcases hq with rfl | rfl | rfl | rfl | rfl | rfl | rfl | rfl <;> rfl) ?_
  exact KKn _ ho1 (P_chg hc1) (G_of (g_chg hc1) (by decide) (by decide))
theorem l_case4e {w : pW} {b n0 : Nat} (hbn : b + 57 ≤ n0) {S : St} {L M : List St} {K : St} (hk : obk w b S L M K) {c : Nat} {X : Sh} (hu : shAt w (fun i => n0 ≤ i) (fun i => ¬ inO b i) c X) (hR : Rel S X) (hlw : n0 ≤ w.length) {k n ws aw s : Nat} {x y px py grid what : Int} {Φ : Option Value → pW → Prop} {inn : Int} {p9 q9 : Nat} (hp : p9 < 40) (hq : q9 < 40) (hpq : p9 ≠ q9) (sp : S.has p9) (sq : ¬ S.has q9)  (KKn : ∀ w' : pW, obk w' b S L M K → agr (fun i => inO b i ∨ n0 ≤ i) w w' → gro 2000 (2 * pwsz (nP 0) + 12000) w w' → qE 158 (1559, [(9, .int (iI 0)), (8, .ref c), (5, .int (iI (k : Int))), (4, .int (iI (n : Int))), (3, .ref ws), (2, .ref aw), (1, .ref b), (0, .ref s)], [], w') Φ) : qE 158 (491, [(16, .int (iI inn)), (15, .int (iI what)), (14, .int (iI (q9 : Int))), (13, .int (iI (p9 : Int))), (12, .int (iI py)), (11, .int (iI px)), (10, .int (iI grid)), (9, .int (iI 1)), (8, .ref c), (7, .int (iI y)), (6, .int (iI x)), (5, .int (iI (k : Int))), (4, .int (iI (n : Int))), (3, .ref ws), (2, .ref aw), (1, .ref b), (0, .ref s)], [], w) Φ := by
  have hko := obk_ok hk
  have hIn := hR.In hko
  have hX9 := hIn.1
  obtain ⟨fb, hbo⟩ := obk_obj hk
  obtain ⟨fc, hco⟩ := sh_obj hu
  have hfs := Sh.free_sm X
  have has := Sh.at_sm X px py
  obtain ⟨pa, fa, ha, pf, gf, hf, ff, hP⟩ := id hu
  obtain ⟨E, hE, hE2⟩ := hko.E
  have hno : ∀ p8 q8 : Nat, p8 = p9 → q8 = q9 → ¬ (S.sight p8 q8 E ∧ ¬ S.bound p8 q8) := by
    rintro p8 q8 rfl rfl z
    exact sq z.1.2.1
  obtain ⟨rp, ep, -, hrp⟩ := hP.2.2.2.2.1 p9 _ _ _ hp (hR.pt hp sp)
  have eq := hP.2.2.2.1 q9 hq (hR.no hq sq)
  refine pe_go (pc := 491) rfl (s_iload rfl) ?_
  refine pe_go rfl (s_if_lt_f ⟨by omega, by omega⟩ (by omega)) ?_
  refine pe_go (pc := 496) rfl (s_iload rfl) ?_
  refine pe_go rfl (s_if_lt_f ⟨by omega, by omega⟩ (by omega)) ?_
  refine pe_go (pc := 501) rfl (s_iload rfl) ?_
  refine pe_go (pc := 503) rfl (s_iload rfl) ?_
  refine pe_go rfl (s_icmp_eq_f ⟨by omega, by omega⟩ ⟨by omega, by omega⟩ (by omega)) ?_
  refine pe_go (pc := 508) rfl (s_aload rfl) ?_
  refine pe_go (pc := 510) rfl (s_getf (v := .ref pa) hP.2.1 rfl) ?_
  refine pe_go (pc := 513) rfl (s_iload rfl) ?_
  refine pe_go (pc := 515) rfl (s_aald hP.2.2.1 (k := p9) (by omega) (by omega) ep) ?_
  refine pe_go (pc := 516) rfl s_ifnull_f ?_
  refine pe_go (pc := 519) rfl (s_aload rfl) ?_
  refine pe_go (pc := 521) rfl (s_getf (v := .ref pa) hP.2.1 rfl) ?_
  refine pe_go (pc := 524) rfl (s_iload rfl) ?_
  refine pe_go (pc := 526) rfl (s_aaldN hP.2.2.1 (k := q9) (by omega) (by omega) eq) ?_
  refine pe_go (pc := 527) rfl s_ifnull_t ?_
  refine pe_go (pc := 560) rfl (s_iconst (z := 0) rfl) ?_
  refine pe_go (pc := 561) rfl (s_istore (lv' := [(9, .int (iI 0)), (16, .int (iI inn)), (15, .int (iI what)), (14, .int (iI (q9 : Int))), (13, .int (iI (p9 : Int))), (12, .int (iI py)), (11, .int (iI px)), (10, .int (iI grid)), (8, .ref c), (7, .int (iI y)), (6, .int (iI x)), (5, .int (iI (k : Int))), (4, .int (iI (n : Int))), (3, .ref ws), (2, .ref aw), (1, .ref b), (0, .ref s)]) rfl) ?_
  refine pe_go (pc := 563) rfl (s_aload_n rfl) ?_
  refine pe_go (pc := 564) rfl (s_iload rfl) ?_
  refine pe_go (pc := 566) rfl (s_iload rfl) ?_
  refine pe_callE rfl (s_invV rfl hbo rfl rfl) (k_fixN hk (Or.inr ⟨p9, hp, rfl⟩) (Or.inr ⟨q9, hq, rfl⟩) hE hE2 (fun p8 q8 h1 h2 e1 e2 z => hno p8 q8 (by omega) (by omega) z)) ?_
  rintro _ w1 ⟨rfl, ho1, hc1⟩
  rw [show bI false = iI 0 from rfl]
  refine pe_go (pc := 571) rfl (s_iload rfl) ?_
  refine pe_go rfl (s_icmp_eq_t ⟨by decide, by decide⟩ ⟨by decide, by decide⟩ (by decide)) ?_
  refine pe_go (pc := 578) rfl (s_iload rfl) ?_
  refine pe_go rfl (s_if_eq_t ⟨by decide, by decide⟩ (by decide)) ?_
  refine pe_few (lv := [(9, .int (iI 0)), (8, .ref c), (5, .int (iI (k : Int))), (4, .int (iI (n : Int))), (3, .ref ws), (2, .ref aw), (1, .ref b), (0, .ref s)]) rfl rfl (by intro q hq; simp only [List.mem_cons, List.not_mem_nil, or_false] at hq; rcases hq with rfl | rfl | rfl | rfl | rfl | rfl | rfl | rfl <;> rfl) ?_
  exact KKn _ ho1 (P_chg hc1) (G_of (g_chg hc1) (by decide) (by decide))
theorem l_case4f {w : pW} {b n0 : Nat} (hbn : b + 57 ≤ n0) {S : St} {L M : List St} {K : St} (hk : obk w b S L M K) {c : Nat} {X : Sh} (hu : shAt w (fun i => n0 ≤ i) (fun i => ¬ inO b i) c X) (hR : Rel S X) (hlw : n0 ≤ w.length) {k n ws aw s : Nat} {x y px py grid what : Int} {Φ : Option Value → pW → Prop} {inn : Int} {p9 q9 : Nat} (hp : p9 < 40) (hq : q9 < 40) (hpq : p9 ≠ q9) (sp : S.has p9) (sq : S.has q9) (hw : S.how p9 q9 ≠ 0)  (KKn : ∀ w' : pW, obk w' b S L M K → agr (fun i => inO b i ∨ n0 ≤ i) w w' → gro 2000 (2 * pwsz (nP 0) + 12000) w w' → qE 158 (1559, [(9, .int (iI 0)), (8, .ref c), (5, .int (iI (k : Int))), (4, .int (iI (n : Int))), (3, .ref ws), (2, .ref aw), (1, .ref b), (0, .ref s)], [], w') Φ) : qE 158 (491, [(16, .int (iI inn)), (15, .int (iI what)), (14, .int (iI (q9 : Int))), (13, .int (iI (p9 : Int))), (12, .int (iI py)), (11, .int (iI px)), (10, .int (iI grid)), (9, .int (iI 1)), (8, .ref c), (7, .int (iI y)), (6, .int (iI x)), (5, .int (iI (k : Int))), (4, .int (iI (n : Int))), (3, .ref ws), (2, .ref aw), (1, .ref b), (0, .ref s)], [], w) Φ := by
  have hko := obk_ok hk
  have hIn := hR.In hko
  have hX9 := hIn.1
  obtain ⟨fb, hbo⟩ := obk_obj hk
  obtain ⟨fc, hco⟩ := sh_obj hu
  have hfs := Sh.free_sm X
  have has := Sh.at_sm X px py
  obtain ⟨pa, fa, ha, pf, gf, hf, ff, hP⟩ := id hu
  obtain ⟨E, hE, hE2⟩ := hko.E
  have hno : ∀ p8 q8 : Nat, p8 = p9 → q8 = q9 → ¬ (S.sight p8 q8 E ∧ ¬ S.bound p8 q8) := by
    rintro p8 q8 rfl rfl z
    exact hw (St.how_0.mpr z.2)
  obtain ⟨rp, ep, -, hrp⟩ := hP.2.2.2.2.1 p9 _ _ _ hp (hR.pt hp sp)
  obtain ⟨rq, eq, -, hrq⟩ := hP.2.2.2.2.1 q9 _ _ _ hq (hR.pt hq sq)
  obtain ⟨efp, -, hfp⟩ := hP.2.2.2.2.2.2.1 p9 hp
  have hh := hR.2.2.1 p9 q9 hp hq
  have hhb := St.how_b S p9 q9
  refine pe_go (pc := 491) rfl (s_iload rfl) ?_
  refine pe_go rfl (s_if_lt_f ⟨by omega, by omega⟩ (by omega)) ?_
  refine pe_go (pc := 496) rfl (s_iload rfl) ?_
  refine pe_go rfl (s_if_lt_f ⟨by omega, by omega⟩ (by omega)) ?_
  refine pe_go (pc := 501) rfl (s_iload rfl) ?_
  refine pe_go (pc := 503) rfl (s_iload rfl) ?_
  refine pe_go rfl (s_icmp_eq_f ⟨by omega, by omega⟩ ⟨by omega, by omega⟩ (by omega)) ?_
  refine pe_go (pc := 508) rfl (s_aload rfl) ?_
  refine pe_go (pc := 510) rfl (s_getf (v := .ref pa) hP.2.1 rfl) ?_
  refine pe_go (pc := 513) rfl (s_iload rfl) ?_
  refine pe_go (pc := 515) rfl (s_aald hP.2.2.1 (k := p9) (by omega) (by omega) ep) ?_
  refine pe_go (pc := 516) rfl s_ifnull_f ?_
  refine pe_go (pc := 519) rfl (s_aload rfl) ?_
  refine pe_go (pc := 521) rfl (s_getf (v := .ref pa) hP.2.1 rfl) ?_
  refine pe_go (pc := 524) rfl (s_iload rfl) ?_
  refine pe_go (pc := 526) rfl (s_aald hP.2.2.1 (k := q9) (by omega) (by omega) eq) ?_
  refine pe_go (pc := 527) rfl s_ifnull_f ?_
  refine pe_go (pc := 530) rfl (s_aload rfl) ?_
  refine pe_go (pc := 532) rfl (s_getf (v := .ref fa) hP.2.1 rfl) ?_
  refine pe_go (pc := 535) rfl (s_iload rfl) ?_
  refine pe_go (pc := 537) rfl (s_aald hP.2.2.2.2.2.1 (k := p9) (by omega) (by omega) efp) ?_
  refine pe_go (pc := 538) rfl (s_iload rfl) ?_
  refine pe_go (pc := 540) rfl (s_iald (n := 40) (f := X.2.1 p9) (v := S.how p9 q9) hfp (k := q9) (by omega) (by omega) (by decide) hh) ?_
  refine pe_go rfl (s_if_ne_t ⟨by omega, by omega⟩ hw) ?_
  refine pe_go (pc := 560) rfl (s_iconst (z := 0) rfl) ?_
  refine pe_go (pc := 561) rfl (s_istore (lv' := [(9, .int (iI 0)), (16, .int (iI inn)), (15, .int (iI what)), (14, .int (iI (q9 : Int))), (13, .int (iI (p9 : Int))), (12, .int (iI py)), (11, .int (iI px)), (10, .int (iI grid)), (8, .ref c), (7, .int (iI y)), (6, .int (iI x)), (5, .int (iI (k : Int))), (4, .int (iI (n : Int))), (3, .ref ws), (2, .ref aw), (1, .ref b), (0, .ref s)]) rfl) ?_
  refine pe_go (pc := 563) rfl (s_aload_n rfl) ?_
  refine pe_go (pc := 564) rfl (s_iload rfl) ?_
  refine pe_go (pc := 566) rfl (s_iload rfl) ?_
  refine pe_callE rfl (s_invV rfl hbo rfl rfl) (k_fixN hk (Or.inr ⟨p9, hp, rfl⟩) (Or.inr ⟨q9, hq, rfl⟩) hE hE2 (fun p8 q8 h1 h2 e1 e2 z => hno p8 q8 (by omega) (by omega) z)) ?_
  rintro _ w1 ⟨rfl, ho1, hc1⟩
  rw [show bI false = iI 0 from rfl]
  refine pe_go (pc := 571) rfl (s_iload rfl) ?_
  refine pe_go rfl (s_icmp_eq_t ⟨by decide, by decide⟩ ⟨by decide, by decide⟩ (by decide)) ?_
  refine pe_go (pc := 578) rfl (s_iload rfl) ?_
  refine pe_go rfl (s_if_eq_t ⟨by decide, by decide⟩ (by decide)) ?_
  refine pe_few (lv := [(9, .int (iI 0)), (8, .ref c), (5, .int (iI (k : Int))), (4, .int (iI (n : Int))), (3, .ref ws), (2, .ref aw), (1, .ref b), (0, .ref s)]) rfl rfl (by intro q hq; simp only [List.mem_cons, List.not_mem_nil, or_false] at hq; rcases hq with rfl | rfl | rfl | rfl | rfl | rfl | rfl | rfl <;> rfl) ?_
  exact KKn _ ho1 (P_chg hc1) (G_of (g_chg hc1) (by decide) (by decide))
theorem sees_1 {w : pW} {O Q : Nat → Prop} {a : Nat} {X : Sh} (hu : shAt w O Q a X) {S : St} (hR : Rel S X) (hS : S.Ok) {p q : Nat} (hp : p < 40) (hq : q < 40) (sp : S.has p) (sq : S.has q) (h : X.sees p q) : pRun 132 [.ref a, .int (iI (p : Int)), .int (iI (q : Int))] w (some (.int (iI 1))) w := by
  obtain ⟨r, w1, ⟨rfl, v, rfl, hv⟩, hrun⟩ := w_sees hu (hR.In hS).1 hp hq ((hR.1 p hp).mpr sp) ((hR.1 q hq).mpr sq) (hR.In hS).2.1 (hR.In hS).2.2.1
  rw [hv.mpr h] at hrun
  exact hrun
theorem sees_0 {w : pW} {O Q : Nat → Prop} {a : Nat} {X : Sh} (hu : shAt w O Q a X) {S : St} (hR : Rel S X) (hS : S.Ok) {p q : Nat} (hp : p < 40) (hq : q < 40) (sp : S.has p) (sq : S.has q) (h : ¬ X.sees p q) : pRun 132 [.ref a, .int (iI (p : Int)), .int (iI (q : Int))] w (some (.int (iI 0))) w := by
  obtain ⟨r, w1, ⟨rfl, v, rfl, hv⟩, hrun⟩ := w_sees hu (hR.In hS).1 hp hq ((hR.1 p hp).mpr sp) ((hR.1 q hq).mpr sq) (hR.In hS).2.1 (hR.In hS).2.2.1
  have e : v = false := Bool.eq_false_iff.mpr (fun z => h (hv.mp z))
  rw [e] at hrun
  exact hrun
theorem l_case4g {w : pW} {b n0 : Nat} (hbn : b + 57 ≤ n0) {S : St} {L M : List St} {K : St} (hk : obk w b S L M K) {c : Nat} {X : Sh} (hu : shAt w (fun i => n0 ≤ i) (fun i => ¬ inO b i) c X) (hR : Rel S X) (hlw : n0 ≤ w.length) {k n ws aw s : Nat} {x y px py grid what : Int} {Φ : Option Value → pW → Prop} {inn : Int} {p9 q9 : Nat} (hp : p9 < 40) (hq : q9 < 40) (hpq : p9 ≠ q9) (sp : S.has p9) (sq : S.has q9) (hw : S.how p9 q9 = 0) (hv : ¬ X.sees p9 q9)  (KKn : ∀ w' : pW, obk w' b S L M K → agr (fun i => inO b i ∨ n0 ≤ i) w w' → gro 2000 (2 * pwsz (nP 0) + 12000) w w' → qE 158 (1559, [(9, .int (iI 0)), (8, .ref c), (5, .int (iI (k : Int))), (4, .int (iI (n : Int))), (3, .ref ws), (2, .ref aw), (1, .ref b), (0, .ref s)], [], w') Φ) : qE 158 (491, [(16, .int (iI inn)), (15, .int (iI what)), (14, .int (iI (q9 : Int))), (13, .int (iI (p9 : Int))), (12, .int (iI py)), (11, .int (iI px)), (10, .int (iI grid)), (9, .int (iI 1)), (8, .ref c), (7, .int (iI y)), (6, .int (iI x)), (5, .int (iI (k : Int))), (4, .int (iI (n : Int))), (3, .ref ws), (2, .ref aw), (1, .ref b), (0, .ref s)], [], w) Φ := by
  have hko := obk_ok hk
  have hIn := hR.In hko
  have hX9 := hIn.1
  obtain ⟨fb, hbo⟩ := obk_obj hk
  obtain ⟨fc, hco⟩ := sh_obj hu
  have hfs := Sh.free_sm X
  have has := Sh.at_sm X px py
  obtain ⟨pa, fa, ha, pf, gf, hf, ff, hP⟩ := id hu
  obtain ⟨E, hE, hE2⟩ := hko.E
  have hno : ∀ p8 q8 : Nat, p8 = p9 → q8 = q9 → ¬ (S.sight p8 q8 E ∧ ¬ S.bound p8 q8) := by
    rintro p8 q8 rfl rfl z
    exact hv (hR.seen hko hp hq sp sq hE hE2 |>.mpr ⟨z.1.2.2.2.1, z.1.2.2.2.2⟩)
  obtain ⟨rp, ep, -, hrp⟩ := hP.2.2.2.2.1 p9 _ _ _ hp (hR.pt hp sp)
  obtain ⟨rq, eq, -, hrq⟩ := hP.2.2.2.2.1 q9 _ _ _ hq (hR.pt hq sq)
  obtain ⟨efp, -, hfp⟩ := hP.2.2.2.2.2.2.1 p9 hp
  have hh := hR.2.2.1 p9 q9 hp hq
  have hhb := St.how_b S p9 q9
  have hsee := sees_0 hu hR hko hp hq sp sq hv
  refine pe_go (pc := 491) rfl (s_iload rfl) ?_
  refine pe_go rfl (s_if_lt_f ⟨by omega, by omega⟩ (by omega)) ?_
  refine pe_go (pc := 496) rfl (s_iload rfl) ?_
  refine pe_go rfl (s_if_lt_f ⟨by omega, by omega⟩ (by omega)) ?_
  refine pe_go (pc := 501) rfl (s_iload rfl) ?_
  refine pe_go (pc := 503) rfl (s_iload rfl) ?_
  refine pe_go rfl (s_icmp_eq_f ⟨by omega, by omega⟩ ⟨by omega, by omega⟩ (by omega)) ?_
  refine pe_go (pc := 508) rfl (s_aload rfl) ?_
  refine pe_go (pc := 510) rfl (s_getf (v := .ref pa) hP.2.1 rfl) ?_
  refine pe_go (pc := 513) rfl (s_iload rfl) ?_
  refine pe_go (pc := 515) rfl (s_aald hP.2.2.1 (k := p9) (by omega) (by omega) ep) ?_
  refine pe_go (pc := 516) rfl s_ifnull_f ?_
  refine pe_go (pc := 519) rfl (s_aload rfl) ?_
  refine pe_go (pc := 521) rfl (s_getf (v := .ref pa) hP.2.1 rfl) ?_
  refine pe_go (pc := 524) rfl (s_iload rfl) ?_
  refine pe_go (pc := 526) rfl (s_aald hP.2.2.1 (k := q9) (by omega) (by omega) eq) ?_
  refine pe_go (pc := 527) rfl s_ifnull_f ?_
  refine pe_go (pc := 530) rfl (s_aload rfl) ?_
  refine pe_go (pc := 532) rfl (s_getf (v := .ref fa) hP.2.1 rfl) ?_
  refine pe_go (pc := 535) rfl (s_iload rfl) ?_
  refine pe_go (pc := 537) rfl (s_aald hP.2.2.2.2.2.1 (k := p9) (by omega) (by omega) efp) ?_
  refine pe_go (pc := 538) rfl (s_iload rfl) ?_
  refine pe_go (pc := 540) rfl (s_iald (n := 40) (f := X.2.1 p9) (v := S.how p9 q9) hfp (k := q9) (by omega) (by omega) (by decide) hh) ?_
  refine pe_go rfl (s_if_ne_f ⟨by omega, by omega⟩ (by omega)) ?_
  refine pe_go (pc := 544) rfl (s_aload rfl) ?_
  refine pe_go (pc := 546) rfl (s_iload rfl) ?_
  refine pe_go (pc := 548) rfl (s_iload rfl) ?_
  refine pe_call rfl (s_invV rfl hP.2.1 rfl rfl) (hsee) ?_
  refine pe_go rfl (s_if_eq_t ⟨by decide, by decide⟩ (by decide)) ?_
  refine pe_go (pc := 560) rfl (s_iconst (z := 0) rfl) ?_
  refine pe_go (pc := 561) rfl (s_istore (lv' := [(9, .int (iI 0)), (16, .int (iI inn)), (15, .int (iI what)), (14, .int (iI (q9 : Int))), (13, .int (iI (p9 : Int))), (12, .int (iI py)), (11, .int (iI px)), (10, .int (iI grid)), (8, .ref c), (7, .int (iI y)), (6, .int (iI x)), (5, .int (iI (k : Int))), (4, .int (iI (n : Int))), (3, .ref ws), (2, .ref aw), (1, .ref b), (0, .ref s)]) rfl) ?_
  refine pe_go (pc := 563) rfl (s_aload_n rfl) ?_
  refine pe_go (pc := 564) rfl (s_iload rfl) ?_
  refine pe_go (pc := 566) rfl (s_iload rfl) ?_
  refine pe_callE rfl (s_invV rfl hbo rfl rfl) (k_fixN hk (Or.inr ⟨p9, hp, rfl⟩) (Or.inr ⟨q9, hq, rfl⟩) hE hE2 (fun p8 q8 h1 h2 e1 e2 z => hno p8 q8 (by omega) (by omega) z)) ?_
  rintro _ w1 ⟨rfl, ho1, hc1⟩
  rw [show bI false = iI 0 from rfl]
  refine pe_go (pc := 571) rfl (s_iload rfl) ?_
  refine pe_go rfl (s_icmp_eq_t ⟨by decide, by decide⟩ ⟨by decide, by decide⟩ (by decide)) ?_
  refine pe_go (pc := 578) rfl (s_iload rfl) ?_
  refine pe_go rfl (s_if_eq_t ⟨by decide, by decide⟩ (by decide)) ?_
  refine pe_few (lv := [(9, .int (iI 0)), (8, .ref c), (5, .int (iI (k : Int))), (4, .int (iI (n : Int))), (3, .ref ws), (2, .ref aw), (1, .ref b), (0, .ref s)]) rfl rfl (by intro q hq; simp only [List.mem_cons, List.not_mem_nil, or_false] at hq; rcases hq with rfl | rfl | rfl | rfl | rfl | rfl | rfl | rfl <;> rfl) ?_
  exact KKn _ ho1 (P_chg hc1) (G_of (g_chg hc1) (by decide) (by decide))
theorem l_case4h {w : pW} {b n0 : Nat} (hbn : b + 57 ≤ n0) {S : St} {L M : List St} {K : St} (hk : obk w b S L M K) {c : Nat} {X : Sh} (hu : shAt w (fun i => n0 ≤ i) (fun i => ¬ inO b i) c X) (hR : Rel S X) (hlw : n0 ≤ w.length) {k n ws aw s : Nat} {x y px py grid what : Int} {Φ : Option Value → pW → Prop} {inn : Int} {p9 q9 : Nat} (hp : p9 < 40) (hq : q9 < 40) (hpq : p9 ≠ q9) (sp : S.has p9) (sq : S.has q9) (hw : S.how p9 q9 = 0) (hv : X.sees p9 q9) (KKd : ∀ (w' : pW) (S' : St) (X' : Sh), obk w' b S' (pshL S L) M K → Rel S' X' → shAt w' (fun i => n0 ≤ i) (fun i => ¬ inO b i) c X' → agr (fun i => inO b i ∨ n0 ≤ i) w w' → gro 2000 (2 * pwsz (nP 0) + 12000) w w' → qE 158 (1559, [(9, .int (iI 1)), (8, .ref c), (5, .int (iI (k : Int))), (4, .int (iI (n : Int))), (3, .ref ws), (2, .ref aw), (1, .ref b), (0, .ref s)], [], w') Φ)  : qE 158 (491, [(16, .int (iI inn)), (15, .int (iI what)), (14, .int (iI (q9 : Int))), (13, .int (iI (p9 : Int))), (12, .int (iI py)), (11, .int (iI px)), (10, .int (iI grid)), (9, .int (iI 1)), (8, .ref c), (7, .int (iI y)), (6, .int (iI x)), (5, .int (iI (k : Int))), (4, .int (iI (n : Int))), (3, .ref ws), (2, .ref aw), (1, .ref b), (0, .ref s)], [], w) Φ := by
  have hko := obk_ok hk
  have hIn := hR.In hko
  have hX9 := hIn.1
  obtain ⟨fb, hbo⟩ := obk_obj hk
  obtain ⟨fc, hco⟩ := sh_obj hu
  have hfs := Sh.free_sm X
  have has := Sh.at_sm X px py
  obtain ⟨pa, fa, ha, pf, gf, hf, ff, hP⟩ := id hu
  obtain ⟨E, hE, hE2⟩ := hko.E
  obtain ⟨rp, ep, -, hrp⟩ := hP.2.2.2.2.1 p9 _ _ _ hp (hR.pt hp sp)
  obtain ⟨rq, eq, -, hrq⟩ := hP.2.2.2.2.1 q9 _ _ _ hq (hR.pt hq sq)
  obtain ⟨efp, -, hfp⟩ := hP.2.2.2.2.2.2.1 p9 hp
  have hh := hR.2.2.1 p9 q9 hp hq
  have hhb := St.how_b S p9 q9
  have hse := hR.seen hko hp hq sp sq hE hE2
  have hsee := sees_1 hu hR hko hp hq sp sq hv
  refine pe_go (pc := 491) rfl (s_iload rfl) ?_
  refine pe_go rfl (s_if_lt_f ⟨by omega, by omega⟩ (by omega)) ?_
  refine pe_go (pc := 496) rfl (s_iload rfl) ?_
  refine pe_go rfl (s_if_lt_f ⟨by omega, by omega⟩ (by omega)) ?_
  refine pe_go (pc := 501) rfl (s_iload rfl) ?_
  refine pe_go (pc := 503) rfl (s_iload rfl) ?_
  refine pe_go rfl (s_icmp_eq_f ⟨by omega, by omega⟩ ⟨by omega, by omega⟩ (by omega)) ?_
  refine pe_go (pc := 508) rfl (s_aload rfl) ?_
  refine pe_go (pc := 510) rfl (s_getf (v := .ref pa) hP.2.1 rfl) ?_
  refine pe_go (pc := 513) rfl (s_iload rfl) ?_
  refine pe_go (pc := 515) rfl (s_aald hP.2.2.1 (k := p9) (by omega) (by omega) ep) ?_
  refine pe_go (pc := 516) rfl s_ifnull_f ?_
  refine pe_go (pc := 519) rfl (s_aload rfl) ?_
  refine pe_go (pc := 521) rfl (s_getf (v := .ref pa) hP.2.1 rfl) ?_
  refine pe_go (pc := 524) rfl (s_iload rfl) ?_
  refine pe_go (pc := 526) rfl (s_aald hP.2.2.1 (k := q9) (by omega) (by omega) eq) ?_
  refine pe_go (pc := 527) rfl s_ifnull_f ?_
  refine pe_go (pc := 530) rfl (s_aload rfl) ?_
  refine pe_go (pc := 532) rfl (s_getf (v := .ref fa) hP.2.1 rfl) ?_
  refine pe_go (pc := 535) rfl (s_iload rfl) ?_
  refine pe_go (pc := 537) rfl (s_aald hP.2.2.2.2.2.1 (k := p9) (by omega) (by omega) efp) ?_
  refine pe_go (pc := 538) rfl (s_iload rfl) ?_
  refine pe_go (pc := 540) rfl (s_iald (n := 40) (f := X.2.1 p9) (v := S.how p9 q9) hfp (k := q9) (by omega) (by omega) (by decide) hh) ?_
  refine pe_go rfl (s_if_ne_f ⟨by omega, by omega⟩ (by omega)) ?_
  refine pe_go (pc := 544) rfl (s_aload rfl) ?_
  refine pe_go (pc := 546) rfl (s_iload rfl) ?_
  refine pe_go (pc := 548) rfl (s_iload rfl) ?_
  refine pe_call rfl (s_invV rfl hP.2.1 rfl rfl) (hsee) ?_
  refine pe_go rfl (s_if_eq_f ⟨by decide, by decide⟩ (by decide)) ?_
  refine pe_go (pc := 556) rfl (s_iconst (z := 1) rfl) ?_
  refine pe_go (pc := 557) rfl s_goto ?_
  refine pe_go (pc := 561) rfl (s_istore (lv' := [(9, .int (iI 1)), (16, .int (iI inn)), (15, .int (iI what)), (14, .int (iI (q9 : Int))), (13, .int (iI (p9 : Int))), (12, .int (iI py)), (11, .int (iI px)), (10, .int (iI grid)), (8, .ref c), (7, .int (iI y)), (6, .int (iI x)), (5, .int (iI (k : Int))), (4, .int (iI (n : Int))), (3, .ref ws), (2, .ref aw), (1, .ref b), (0, .ref s)]) rfl) ?_
  refine pe_go (pc := 563) rfl (s_aload_n rfl) ?_
  refine pe_go (pc := 564) rfl (s_iload rfl) ?_
  refine pe_go (pc := 566) rfl (s_iload rfl) ?_
  refine pe_callE rfl (s_invV rfl hbo rfl rfl) (k_fixY hk hp hq hE hE2 ⟨sp, sq, hpq, hse.mp hv⟩ (St.how_0.mp hw)) ?_
  rintro _ w1 ⟨rfl, R1, hx1, hr1, ho1, hc1⟩
  rw [show bI true = iI 1 from rfl]
  have hu2 := sh_chg hbn hu hc1
  obtain ⟨fc2, hco2⟩ := sh_obj hu2
  refine pe_go (pc := 571) rfl (s_iload rfl) ?_
  refine pe_go rfl (s_icmp_eq_t ⟨by decide, by decide⟩ ⟨by decide, by decide⟩ (by decide)) ?_
  refine pe_go (pc := 578) rfl (s_iload rfl) ?_
  refine pe_go rfl (s_if_eq_f ⟨by decide, by decide⟩ (by decide)) ?_
  refine pe_go (pc := 583) rfl (s_aload rfl) ?_
  refine pe_go (pc := 585) rfl (s_iload rfl) ?_
  refine pe_go (pc := 587) rfl (s_iload rfl) ?_
  refine pe_go (pc := 589) rfl (s_iconst (z := 1) rfl) ?_
  refine pe_callE rfl (s_invV rfl hco2 rfl rfl) (w_fixes hu2 hp hq 1) ?_
  rintro _ w2 ⟨rfl, hs2, hA2, hg2⟩
  refine pe_go (pc := 593) rfl s_goto ?_
  refine pe_few (lv := [(9, .int (iI 1)), (8, .ref c), (5, .int (iI (k : Int))), (4, .int (iI (n : Int))), (3, .ref ws), (2, .ref aw), (1, .ref b), (0, .ref s)]) rfl rfl (by intro q hq; simp only [List.mem_cons, List.not_mem_nil, or_false] at hq; rcases hq with rfl | rfl | rfl | rfl | rfl | rfl | rfl | rfl <;> rfl) ?_
  have hno9 : ¬ (S.onside p9 q9 ∨ S.onside q9 p9) := fun z => St.how_0.mp hw (z.elim (fun z => St.side_bound hko.M hp hq sp sq z (hse.mp hv).1) (fun z => (hko.bound_sym hq hp).mp (St.side_bound hko.M hq hp sq sp z (St.sightP_sym (hse.mp hv).1))))
  exact KKd _ _ _ (obk_own hbn ho1 hA2) (Rel.fix hR hx1.1 hx1.2.1 hx1.2.2.1 hx1.2.2.2 hr1 hno9) hs2 (P_trans (P_chg hc1) (P_own hA2)) (G_of (gro_trans (g_chg hc1) hg2) (by decide) (by decide))
theorem l_case5a {w : pW} {b n0 : Nat} (hbn : b + 57 ≤ n0) {S : St} {L M : List St} {K : St} (hk : obk w b S L M K) {c : Nat} {X : Sh} (hu : shAt w (fun i => n0 ≤ i) (fun i => ¬ inO b i) c X) (hR : Rel S X) (hlw : n0 ≤ w.length) {k n ws aw s : Nat} {x y px py grid what : Int} {Φ : Option Value → pW → Prop} {inn : Int} {q : Int} (hq : ptN q)  (KKn : ∀ w' : pW, obk w' b S L M K → agr (fun i => inO b i ∨ n0 ≤ i) w w' → gro 2000 (2 * pwsz (nP 0) + 12000) w w' → qE 158 (1559, [(9, .int (iI 0)), (8, .ref c), (5, .int (iI (k : Int))), (4, .int (iI (n : Int))), (3, .ref ws), (2, .ref aw), (1, .ref b), (0, .ref s)], [], w') Φ) : qE 158 (603, [(16, .int (iI inn)), (15, .int (iI what)), (14, .int (iI q)), (13, .int (iI (-1))), (12, .int (iI py)), (11, .int (iI px)), (10, .int (iI grid)), (9, .int (iI 1)), (8, .ref c), (7, .int (iI y)), (6, .int (iI x)), (5, .int (iI (k : Int))), (4, .int (iI (n : Int))), (3, .ref ws), (2, .ref aw), (1, .ref b), (0, .ref s)], [], w) Φ := by
  have hko := obk_ok hk
  have hIn := hR.In hko
  have hX9 := hIn.1
  obtain ⟨fb, hbo⟩ := obk_obj hk
  obtain ⟨fc, hco⟩ := sh_obj hu
  have hfs := Sh.free_sm X
  have has := Sh.at_sm X px py
  obtain ⟨pa, fa, ha, pf, gf, hf, ff, hP⟩ := id hu
  obtain ⟨E, hE, hE2⟩ := hko.E
  refine pe_go (pc := 603) rfl (s_iload rfl) ?_
  refine pe_go rfl (s_if_lt_t ⟨by decide, by decide⟩ (by decide)) ?_
  refine pe_go (pc := 632) rfl (s_iconst (z := 0) rfl) ?_
  refine pe_go (pc := 633) rfl (s_istore (lv' := [(9, .int (iI 0)), (16, .int (iI inn)), (15, .int (iI what)), (14, .int (iI q)), (13, .int (iI (-1))), (12, .int (iI py)), (11, .int (iI px)), (10, .int (iI grid)), (8, .ref c), (7, .int (iI y)), (6, .int (iI x)), (5, .int (iI (k : Int))), (4, .int (iI (n : Int))), (3, .ref ws), (2, .ref aw), (1, .ref b), (0, .ref s)]) rfl) ?_
  refine pe_go (pc := 635) rfl (s_aload_n rfl) ?_
  refine pe_go (pc := 636) rfl (s_iload rfl) ?_
  refine pe_go (pc := 638) rfl (s_iload rfl) ?_
  refine pe_callE rfl (s_invV rfl hbo rfl rfl) (k_freeN hk (x := -1) (Or.inl rfl) hq (fun p9 q9 h1 h2 e1 e2 => by omega)) ?_
  rintro _ w1 ⟨rfl, ho1, hc1⟩
  rw [show bI false = iI 0 from rfl]
  refine pe_go (pc := 643) rfl (s_iload rfl) ?_
  refine pe_go rfl (s_icmp_eq_t ⟨by decide, by decide⟩ ⟨by decide, by decide⟩ (by decide)) ?_
  refine pe_go (pc := 650) rfl (s_iload rfl) ?_
  refine pe_go rfl (s_if_eq_t ⟨by decide, by decide⟩ (by decide)) ?_
  refine pe_few (lv := [(9, .int (iI 0)), (8, .ref c), (5, .int (iI (k : Int))), (4, .int (iI (n : Int))), (3, .ref ws), (2, .ref aw), (1, .ref b), (0, .ref s)]) rfl rfl (by intro q hq; simp only [List.mem_cons, List.not_mem_nil, or_false] at hq; rcases hq with rfl | rfl | rfl | rfl | rfl | rfl | rfl | rfl <;> rfl) ?_
  exact KKn _ ho1 (P_chg hc1) (G_of (g_chg hc1) (by decide) (by decide))
theorem l_case5b {w : pW} {b n0 : Nat} (hbn : b + 57 ≤ n0) {S : St} {L M : List St} {K : St} (hk : obk w b S L M K) {c : Nat} {X : Sh} (hu : shAt w (fun i => n0 ≤ i) (fun i => ¬ inO b i) c X) (hR : Rel S X) (hlw : n0 ≤ w.length) {k n ws aw s : Nat} {x y px py grid what : Int} {Φ : Option Value → pW → Prop} {inn : Int} {p9 : Nat} (hp : p9 < 40)  (KKn : ∀ w' : pW, obk w' b S L M K → agr (fun i => inO b i ∨ n0 ≤ i) w w' → gro 2000 (2 * pwsz (nP 0) + 12000) w w' → qE 158 (1559, [(9, .int (iI 0)), (8, .ref c), (5, .int (iI (k : Int))), (4, .int (iI (n : Int))), (3, .ref ws), (2, .ref aw), (1, .ref b), (0, .ref s)], [], w') Φ) : qE 158 (603, [(16, .int (iI inn)), (15, .int (iI what)), (14, .int (iI (-1))), (13, .int (iI (p9 : Int))), (12, .int (iI py)), (11, .int (iI px)), (10, .int (iI grid)), (9, .int (iI 1)), (8, .ref c), (7, .int (iI y)), (6, .int (iI x)), (5, .int (iI (k : Int))), (4, .int (iI (n : Int))), (3, .ref ws), (2, .ref aw), (1, .ref b), (0, .ref s)], [], w) Φ := by
  have hko := obk_ok hk
  have hIn := hR.In hko
  have hX9 := hIn.1
  obtain ⟨fb, hbo⟩ := obk_obj hk
  obtain ⟨fc, hco⟩ := sh_obj hu
  have hfs := Sh.free_sm X
  have has := Sh.at_sm X px py
  obtain ⟨pa, fa, ha, pf, gf, hf, ff, hP⟩ := id hu
  obtain ⟨E, hE, hE2⟩ := hko.E
  refine pe_go (pc := 603) rfl (s_iload rfl) ?_
  refine pe_go rfl (s_if_lt_f ⟨by omega, by omega⟩ (by omega)) ?_
  refine pe_go (pc := 608) rfl (s_iload rfl) ?_
  refine pe_go rfl (s_if_lt_t ⟨by decide, by decide⟩ (by decide)) ?_
  refine pe_go (pc := 632) rfl (s_iconst (z := 0) rfl) ?_
  refine pe_go (pc := 633) rfl (s_istore (lv' := [(9, .int (iI 0)), (16, .int (iI inn)), (15, .int (iI what)), (14, .int (iI (-1))), (13, .int (iI (p9 : Int))), (12, .int (iI py)), (11, .int (iI px)), (10, .int (iI grid)), (8, .ref c), (7, .int (iI y)), (6, .int (iI x)), (5, .int (iI (k : Int))), (4, .int (iI (n : Int))), (3, .ref ws), (2, .ref aw), (1, .ref b), (0, .ref s)]) rfl) ?_
  refine pe_go (pc := 635) rfl (s_aload_n rfl) ?_
  refine pe_go (pc := 636) rfl (s_iload rfl) ?_
  refine pe_go (pc := 638) rfl (s_iload rfl) ?_
  refine pe_callE rfl (s_invV rfl hbo rfl rfl) (k_freeN hk (Or.inr ⟨p9, hp, rfl⟩) (y := -1) (Or.inl rfl) (fun p9 q9 h1 h2 e1 e2 => by omega)) ?_
  rintro _ w1 ⟨rfl, ho1, hc1⟩
  rw [show bI false = iI 0 from rfl]
  refine pe_go (pc := 643) rfl (s_iload rfl) ?_
  refine pe_go rfl (s_icmp_eq_t ⟨by decide, by decide⟩ ⟨by decide, by decide⟩ (by decide)) ?_
  refine pe_go (pc := 650) rfl (s_iload rfl) ?_
  refine pe_go rfl (s_if_eq_t ⟨by decide, by decide⟩ (by decide)) ?_
  refine pe_few (lv := [(9, .int (iI 0)), (8, .ref c), (5, .int (iI (k : Int))), (4, .int (iI (n : Int))), (3, .ref ws), (2, .ref aw), (1, .ref b), (0, .ref s)]) rfl rfl (by intro q hq; simp only [List.mem_cons, List.not_mem_nil, or_false] at hq; rcases hq with rfl | rfl | rfl | rfl | rfl | rfl | rfl | rfl <;> rfl) ?_
  exact KKn _ ho1 (P_chg hc1) (G_of (g_chg hc1) (by decide) (by decide))
theorem l_case5c {w : pW} {b n0 : Nat} (hbn : b + 57 ≤ n0) {S : St} {L M : List St} {K : St} (hk : obk w b S L M K) {c : Nat} {X : Sh} (hu : shAt w (fun i => n0 ≤ i) (fun i => ¬ inO b i) c X) (hR : Rel S X) (hlw : n0 ≤ w.length) {k n ws aw s : Nat} {x y px py grid what : Int} {Φ : Option Value → pW → Prop} {inn : Int} {p9 q9 : Nat} (hp : p9 < 40) (hq : q9 < 40) (hw : S.how p9 q9 ≠ 1)  (KKn : ∀ w' : pW, obk w' b S L M K → agr (fun i => inO b i ∨ n0 ≤ i) w w' → gro 2000 (2 * pwsz (nP 0) + 12000) w w' → qE 158 (1559, [(9, .int (iI 0)), (8, .ref c), (5, .int (iI (k : Int))), (4, .int (iI (n : Int))), (3, .ref ws), (2, .ref aw), (1, .ref b), (0, .ref s)], [], w') Φ) : qE 158 (603, [(16, .int (iI inn)), (15, .int (iI what)), (14, .int (iI (q9 : Int))), (13, .int (iI (p9 : Int))), (12, .int (iI py)), (11, .int (iI px)), (10, .int (iI grid)), (9, .int (iI 1)), (8, .ref c), (7, .int (iI y)), (6, .int (iI x)), (5, .int (iI (k : Int))), (4, .int (iI (n : Int))), (3, .ref ws), (2, .ref aw), (1, .ref b), (0, .ref s)], [], w) Φ := by
  have hko := obk_ok hk
  have hIn := hR.In hko
  have hX9 := hIn.1
  obtain ⟨fb, hbo⟩ := obk_obj hk
  obtain ⟨fc, hco⟩ := sh_obj hu
  have hfs := Sh.free_sm X
  have has := Sh.at_sm X px py
  obtain ⟨pa, fa, ha, pf, gf, hf, ff, hP⟩ := id hu
  obtain ⟨E, hE, hE2⟩ := hko.E
  have hno : ∀ p8 q8 : Nat, p8 = p9 → q8 = q9 → ¬ ((S.has p8 ∧ S.has q8 ∧ S.bound p8 q8) ∧ (S.ap (p8 * 40 + q8) ≠ -1 ∧ S.ap (q8 * 40 + p8) ≠ -1)) := by
    rintro p8 q8 rfl rfl ⟨⟨-, -, z1⟩, z2⟩
    refine hw (St.how_1.mpr ⟨z1, fun z3 => ?_⟩)
    exact (St.one_iff hko.M.1 hp hq (hko.M.2.1.1 p8 q8 hp hq z1).2.2.2).mpr z3 z2
  obtain ⟨efp, -, hfp⟩ := hP.2.2.2.2.2.2.1 p9 hp
  have hh := hR.2.2.1 p9 q9 hp hq
  have hhb := St.how_b S p9 q9
  refine pe_go (pc := 603) rfl (s_iload rfl) ?_
  refine pe_go rfl (s_if_lt_f ⟨by omega, by omega⟩ (by omega)) ?_
  refine pe_go (pc := 608) rfl (s_iload rfl) ?_
  refine pe_go rfl (s_if_lt_f ⟨by omega, by omega⟩ (by omega)) ?_
  refine pe_go (pc := 613) rfl (s_aload rfl) ?_
  refine pe_go (pc := 615) rfl (s_getf (v := .ref fa) hP.2.1 rfl) ?_
  refine pe_go (pc := 618) rfl (s_iload rfl) ?_
  refine pe_go (pc := 620) rfl (s_aald hP.2.2.2.2.2.1 (k := p9) (by omega) (by omega) efp) ?_
  refine pe_go (pc := 621) rfl (s_iload rfl) ?_
  refine pe_go (pc := 623) rfl (s_iald (n := 40) (f := X.2.1 p9) (v := S.how p9 q9) hfp (k := q9) (by omega) (by omega) (by decide) hh) ?_
  refine pe_go (pc := 624) rfl (s_iconst (z := 1) rfl) ?_
  refine pe_go rfl (s_icmp_ne_t ⟨by omega, by omega⟩ ⟨by decide, by decide⟩ hw) ?_
  refine pe_go (pc := 632) rfl (s_iconst (z := 0) rfl) ?_
  refine pe_go (pc := 633) rfl (s_istore (lv' := [(9, .int (iI 0)), (16, .int (iI inn)), (15, .int (iI what)), (14, .int (iI (q9 : Int))), (13, .int (iI (p9 : Int))), (12, .int (iI py)), (11, .int (iI px)), (10, .int (iI grid)), (8, .ref c), (7, .int (iI y)), (6, .int (iI x)), (5, .int (iI (k : Int))), (4, .int (iI (n : Int))), (3, .ref ws), (2, .ref aw), (1, .ref b), (0, .ref s)]) rfl) ?_
  refine pe_go (pc := 635) rfl (s_aload_n rfl) ?_
  refine pe_go (pc := 636) rfl (s_iload rfl) ?_
  refine pe_go (pc := 638) rfl (s_iload rfl) ?_
  refine pe_callE rfl (s_invV rfl hbo rfl rfl) (k_freeN hk (Or.inr ⟨p9, hp, rfl⟩) (Or.inr ⟨q9, hq, rfl⟩) (fun p8 q8 h1 h2 e1 e2 z => hno p8 q8 (by omega) (by omega) z)) ?_
  rintro _ w1 ⟨rfl, ho1, hc1⟩
  rw [show bI false = iI 0 from rfl]
  refine pe_go (pc := 643) rfl (s_iload rfl) ?_
  refine pe_go rfl (s_icmp_eq_t ⟨by decide, by decide⟩ ⟨by decide, by decide⟩ (by decide)) ?_
  refine pe_go (pc := 650) rfl (s_iload rfl) ?_
  refine pe_go rfl (s_if_eq_t ⟨by decide, by decide⟩ (by decide)) ?_
  refine pe_few (lv := [(9, .int (iI 0)), (8, .ref c), (5, .int (iI (k : Int))), (4, .int (iI (n : Int))), (3, .ref ws), (2, .ref aw), (1, .ref b), (0, .ref s)]) rfl rfl (by intro q hq; simp only [List.mem_cons, List.not_mem_nil, or_false] at hq; rcases hq with rfl | rfl | rfl | rfl | rfl | rfl | rfl | rfl <;> rfl) ?_
  exact KKn _ ho1 (P_chg hc1) (G_of (g_chg hc1) (by decide) (by decide))
theorem l_case5d {w : pW} {b n0 : Nat} (hbn : b + 57 ≤ n0) {S : St} {L M : List St} {K : St} (hk : obk w b S L M K) {c : Nat} {X : Sh} (hu : shAt w (fun i => n0 ≤ i) (fun i => ¬ inO b i) c X) (hR : Rel S X) (hlw : n0 ≤ w.length) {k n ws aw s : Nat} {x y px py grid what : Int} {Φ : Option Value → pW → Prop} {inn : Int} {p9 q9 : Nat} (hp : p9 < 40) (hq : q9 < 40) (hw : S.how p9 q9 = 1) (KKd : ∀ (w' : pW) (S' : St) (X' : Sh), obk w' b S' (pshL S L) M K → Rel S' X' → shAt w' (fun i => n0 ≤ i) (fun i => ¬ inO b i) c X' → agr (fun i => inO b i ∨ n0 ≤ i) w w' → gro 2000 (2 * pwsz (nP 0) + 12000) w w' → qE 158 (1559, [(9, .int (iI 1)), (8, .ref c), (5, .int (iI (k : Int))), (4, .int (iI (n : Int))), (3, .ref ws), (2, .ref aw), (1, .ref b), (0, .ref s)], [], w') Φ)  : qE 158 (603, [(16, .int (iI inn)), (15, .int (iI what)), (14, .int (iI (q9 : Int))), (13, .int (iI (p9 : Int))), (12, .int (iI py)), (11, .int (iI px)), (10, .int (iI grid)), (9, .int (iI 1)), (8, .ref c), (7, .int (iI y)), (6, .int (iI x)), (5, .int (iI (k : Int))), (4, .int (iI (n : Int))), (3, .ref ws), (2, .ref aw), (1, .ref b), (0, .ref s)], [], w) Φ := by
  have hko := obk_ok hk
  have hIn := hR.In hko
  have hX9 := hIn.1
  obtain ⟨fb, hbo⟩ := obk_obj hk
  obtain ⟨fc, hco⟩ := sh_obj hu
  have hfs := Sh.free_sm X
  have has := Sh.at_sm X px py
  obtain ⟨pa, fa, ha, pf, gf, hf, ff, hP⟩ := id hu
  obtain ⟨E, hE, hE2⟩ := hko.E
  obtain ⟨efp, -, hfp⟩ := hP.2.2.2.2.2.2.1 p9 hp
  have hh := hR.2.2.1 p9 q9 hp hq
  have hhb := St.how_b S p9 q9
  obtain ⟨hbd, hos⟩ := St.how_1.mp hw
  obtain ⟨-, sp, sq, -⟩ := hko.M.2.1.1 p9 q9 hp hq hbd
  refine pe_go (pc := 603) rfl (s_iload rfl) ?_
  refine pe_go rfl (s_if_lt_f ⟨by omega, by omega⟩ (by omega)) ?_
  refine pe_go (pc := 608) rfl (s_iload rfl) ?_
  refine pe_go rfl (s_if_lt_f ⟨by omega, by omega⟩ (by omega)) ?_
  refine pe_go (pc := 613) rfl (s_aload rfl) ?_
  refine pe_go (pc := 615) rfl (s_getf (v := .ref fa) hP.2.1 rfl) ?_
  refine pe_go (pc := 618) rfl (s_iload rfl) ?_
  refine pe_go (pc := 620) rfl (s_aald hP.2.2.2.2.2.1 (k := p9) (by omega) (by omega) efp) ?_
  refine pe_go (pc := 621) rfl (s_iload rfl) ?_
  refine pe_go (pc := 623) rfl (s_iald (n := 40) (f := X.2.1 p9) (v := S.how p9 q9) hfp (k := q9) (by omega) (by omega) (by decide) hh) ?_
  refine pe_go (pc := 624) rfl (s_iconst (z := 1) rfl) ?_
  refine pe_go rfl (s_icmp_ne_f ⟨by omega, by omega⟩ ⟨by decide, by decide⟩ (fun e => e hw)) ?_
  refine pe_go (pc := 628) rfl (s_iconst (z := 1) rfl) ?_
  refine pe_go (pc := 629) rfl s_goto ?_
  refine pe_go (pc := 633) rfl (s_istore (lv' := [(9, .int (iI 1)), (16, .int (iI inn)), (15, .int (iI what)), (14, .int (iI (q9 : Int))), (13, .int (iI (p9 : Int))), (12, .int (iI py)), (11, .int (iI px)), (10, .int (iI grid)), (8, .ref c), (7, .int (iI y)), (6, .int (iI x)), (5, .int (iI (k : Int))), (4, .int (iI (n : Int))), (3, .ref ws), (2, .ref aw), (1, .ref b), (0, .ref s)]) rfl) ?_
  refine pe_go (pc := 635) rfl (s_aload_n rfl) ?_
  refine pe_go (pc := 636) rfl (s_iload rfl) ?_
  refine pe_go (pc := 638) rfl (s_iload rfl) ?_
  refine pe_callE rfl (s_invV rfl hbo rfl rfl) (k_freeY hk hp hq ⟨sp, sq, hbd⟩ (hko.two_fix hp hq hbd hos)) ?_
  rintro _ w1 ⟨rfl, R1, hx1, hr1, ho1, hc1⟩
  rw [show bI true = iI 1 from rfl]
  have hu2 := sh_chg hbn hu hc1
  obtain ⟨fc2, hco2⟩ := sh_obj hu2
  refine pe_go (pc := 643) rfl (s_iload rfl) ?_
  refine pe_go rfl (s_icmp_eq_t ⟨by decide, by decide⟩ ⟨by decide, by decide⟩ (by decide)) ?_
  refine pe_go (pc := 650) rfl (s_iload rfl) ?_
  refine pe_go rfl (s_if_eq_f ⟨by decide, by decide⟩ (by decide)) ?_
  refine pe_go (pc := 655) rfl (s_aload rfl) ?_
  refine pe_go (pc := 657) rfl (s_iload rfl) ?_
  refine pe_go (pc := 659) rfl (s_iload rfl) ?_
  refine pe_go (pc := 661) rfl (s_iconst (z := 0) rfl) ?_
  refine pe_callE rfl (s_invV rfl hco2 rfl rfl) (w_fixes hu2 hp hq 0) ?_
  rintro _ w2 ⟨rfl, hs2, hA2, hg2⟩
  refine pe_go (pc := 665) rfl s_goto ?_
  refine pe_few (lv := [(9, .int (iI 1)), (8, .ref c), (5, .int (iI (k : Int))), (4, .int (iI (n : Int))), (3, .ref ws), (2, .ref aw), (1, .ref b), (0, .ref s)]) rfl rfl (by intro q hq; simp only [List.mem_cons, List.not_mem_nil, or_false] at hq; rcases hq with rfl | rfl | rfl | rfl | rfl | rfl | rfl | rfl <;> rfl) ?_
  exact KKd _ _ _ (obk_own hbn ho1 hA2) (Rel.free hR hx1.1 hx1.2.1 hx1.2.2.1 hx1.2.2.2 hr1) hs2 (P_trans (P_chg hc1) (P_own hA2)) (G_of (gro_trans (g_chg hc1) hg2) (by decide) (by decide))
theorem l_case7a {w : pW} {b n0 : Nat} (hbn : b + 57 ≤ n0) {S : St} {L M : List St} {K : St} (hk : obk w b S L M K) {c : Nat} {X : Sh} (hu : shAt w (fun i => n0 ≤ i) (fun i => ¬ inO b i) c X) (hR : Rel S X) (hlw : n0 ≤ w.length) {k n ws aw s : Nat} {x y px py grid what : Int} {Φ : Option Value → pW → Prop} {inn : Int} {h9 q : Int} (hh9 : sm h9)   (KKn : ∀ w' : pW, obk w' b S L M K → agr (fun i => inO b i ∨ n0 ≤ i) w w' → gro 2000 (2 * pwsz (nP 0) + 12000) w w' → qE 158 (1559, [(9, .int (iI 0)), (8, .ref c), (5, .int (iI (k : Int))), (4, .int (iI (n : Int))), (3, .ref ws), (2, .ref aw), (1, .ref b), (0, .ref s)], [], w') Φ) : qE 158 (796, [(17, .int (iI h9)), (16, .int (iI inn)), (15, .int (iI what)), (14, .int (iI q)), (13, .int (iI (-1))), (12, .int (iI py)), (11, .int (iI px)), (10, .int (iI grid)), (9, .int (iI 1)), (8, .ref c), (7, .int (iI y)), (6, .int (iI x)), (5, .int (iI (k : Int))), (4, .int (iI (n : Int))), (3, .ref ws), (2, .ref aw), (1, .ref b), (0, .ref s)], [], w) Φ := by
  have hko := obk_ok hk
  have hIn := hR.In hko
  have hX9 := hIn.1
  obtain ⟨fb, hbo⟩ := obk_obj hk
  obtain ⟨fc, hco⟩ := sh_obj hu
  have hfs := Sh.free_sm X
  have has := Sh.at_sm X px py
  obtain ⟨pa, fa, ha, pf, gf, hf, ff, hP⟩ := id hu
  obtain ⟨E, hE, hE2⟩ := hko.E
  refine pe_go (pc := 796) rfl (s_iload rfl) ?_
  refine pe_go rfl (s_if_lt_t ⟨by decide, by decide⟩ (by decide)) ?_
  refine pe_go (pc := 832) rfl (s_iconst (z := 0) rfl) ?_
  refine pe_go (pc := 833) rfl (s_istore (lv' := [(9, .int (iI 0)), (17, .int (iI h9)), (16, .int (iI inn)), (15, .int (iI what)), (14, .int (iI q)), (13, .int (iI (-1))), (12, .int (iI py)), (11, .int (iI px)), (10, .int (iI grid)), (8, .ref c), (7, .int (iI y)), (6, .int (iI x)), (5, .int (iI (k : Int))), (4, .int (iI (n : Int))), (3, .ref ws), (2, .ref aw), (1, .ref b), (0, .ref s)]) rfl) ?_
  refine pe_go (pc := 835) rfl (s_aload_n rfl) ?_
  refine pe_go (pc := 836) rfl (s_iload rfl) ?_
  refine pe_go (pc := 838) rfl (s_iload rfl) ?_
  refine pe_callE rfl (s_invV rfl hbo rfl rfl) (k_heightN hk (x := -1) (Or.inl rfl) hh9 (fun p9 h1 e => by omega)) ?_
  rintro _ w1 ⟨rfl, ho1, hc1⟩
  rw [show bI false = iI 0 from rfl]
  refine pe_go (pc := 843) rfl (s_iload rfl) ?_
  refine pe_go rfl (s_icmp_eq_t ⟨by decide, by decide⟩ ⟨by decide, by decide⟩ (by decide)) ?_
  refine pe_go (pc := 850) rfl (s_iload rfl) ?_
  refine pe_go rfl (s_if_eq_t ⟨by decide, by decide⟩ (by decide)) ?_
  refine pe_go (pc := 897) rfl s_goto ?_
  refine pe_few (lv := [(9, .int (iI 0)), (8, .ref c), (5, .int (iI (k : Int))), (4, .int (iI (n : Int))), (3, .ref ws), (2, .ref aw), (1, .ref b), (0, .ref s)]) rfl rfl (by intro q hq; simp only [List.mem_cons, List.not_mem_nil, or_false] at hq; rcases hq with rfl | rfl | rfl | rfl | rfl | rfl | rfl | rfl <;> rfl) ?_
  exact KKn _ ho1 (P_chg hc1) (G_of (g_chg hc1) (by decide) (by decide))
theorem l_case7b {w : pW} {b n0 : Nat} (hbn : b + 57 ≤ n0) {S : St} {L M : List St} {K : St} (hk : obk w b S L M K) {c : Nat} {X : Sh} (hu : shAt w (fun i => n0 ≤ i) (fun i => ¬ inO b i) c X) (hR : Rel S X) (hlw : n0 ≤ w.length) {k n ws aw s : Nat} {x y px py grid what : Int} {Φ : Option Value → pW → Prop} {inn : Int} {p9 : Nat} (hp : p9 < 40) {h9 q : Int} (hh9 : sm h9) (sp : ¬ S.has p9)  (KKn : ∀ w' : pW, obk w' b S L M K → agr (fun i => inO b i ∨ n0 ≤ i) w w' → gro 2000 (2 * pwsz (nP 0) + 12000) w w' → qE 158 (1559, [(9, .int (iI 0)), (8, .ref c), (5, .int (iI (k : Int))), (4, .int (iI (n : Int))), (3, .ref ws), (2, .ref aw), (1, .ref b), (0, .ref s)], [], w') Φ) : qE 158 (796, [(17, .int (iI h9)), (16, .int (iI inn)), (15, .int (iI what)), (14, .int (iI q)), (13, .int (iI (p9 : Int))), (12, .int (iI py)), (11, .int (iI px)), (10, .int (iI grid)), (9, .int (iI 1)), (8, .ref c), (7, .int (iI y)), (6, .int (iI x)), (5, .int (iI (k : Int))), (4, .int (iI (n : Int))), (3, .ref ws), (2, .ref aw), (1, .ref b), (0, .ref s)], [], w) Φ := by
  have hko := obk_ok hk
  have hIn := hR.In hko
  have hX9 := hIn.1
  obtain ⟨fb, hbo⟩ := obk_obj hk
  obtain ⟨fc, hco⟩ := sh_obj hu
  have hfs := Sh.free_sm X
  have has := Sh.at_sm X px py
  obtain ⟨pa, fa, ha, pf, gf, hf, ff, hP⟩ := id hu
  obtain ⟨E, hE, hE2⟩ := hko.E
  have ep := hP.2.2.2.1 p9 hp (hR.no hp sp)
  have hno : ∀ p8 : Nat, p8 = p9 → ¬ S.has p8 := by rintro p8 rfl; exact sp
  refine pe_go (pc := 796) rfl (s_iload rfl) ?_
  refine pe_go rfl (s_if_lt_f ⟨by omega, by omega⟩ (by omega)) ?_
  refine pe_go (pc := 801) rfl (s_aload rfl) ?_
  refine pe_go (pc := 803) rfl (s_getf (v := .ref pa) hP.2.1 rfl) ?_
  refine pe_go (pc := 806) rfl (s_iload rfl) ?_
  refine pe_go (pc := 808) rfl (s_aaldN hP.2.2.1 (k := p9) (by omega) (by omega) ep) ?_
  refine pe_go (pc := 809) rfl s_ifnull_t ?_
  refine pe_go (pc := 832) rfl (s_iconst (z := 0) rfl) ?_
  refine pe_go (pc := 833) rfl (s_istore (lv' := [(9, .int (iI 0)), (17, .int (iI h9)), (16, .int (iI inn)), (15, .int (iI what)), (14, .int (iI q)), (13, .int (iI (p9 : Int))), (12, .int (iI py)), (11, .int (iI px)), (10, .int (iI grid)), (8, .ref c), (7, .int (iI y)), (6, .int (iI x)), (5, .int (iI (k : Int))), (4, .int (iI (n : Int))), (3, .ref ws), (2, .ref aw), (1, .ref b), (0, .ref s)]) rfl) ?_
  refine pe_go (pc := 835) rfl (s_aload_n rfl) ?_
  refine pe_go (pc := 836) rfl (s_iload rfl) ?_
  refine pe_go (pc := 838) rfl (s_iload rfl) ?_
  refine pe_callE rfl (s_invV rfl hbo rfl rfl) (k_heightN hk (Or.inr ⟨p9, hp, rfl⟩) hh9 (fun p8 h1 e z => hno p8 (by omega) z.1)) ?_
  rintro _ w1 ⟨rfl, ho1, hc1⟩
  rw [show bI false = iI 0 from rfl]
  refine pe_go (pc := 843) rfl (s_iload rfl) ?_
  refine pe_go rfl (s_icmp_eq_t ⟨by decide, by decide⟩ ⟨by decide, by decide⟩ (by decide)) ?_
  refine pe_go (pc := 850) rfl (s_iload rfl) ?_
  refine pe_go rfl (s_if_eq_t ⟨by decide, by decide⟩ (by decide)) ?_
  refine pe_go (pc := 897) rfl s_goto ?_
  refine pe_few (lv := [(9, .int (iI 0)), (8, .ref c), (5, .int (iI (k : Int))), (4, .int (iI (n : Int))), (3, .ref ws), (2, .ref aw), (1, .ref b), (0, .ref s)]) rfl rfl (by intro q hq; simp only [List.mem_cons, List.not_mem_nil, or_false] at hq; rcases hq with rfl | rfl | rfl | rfl | rfl | rfl | rfl | rfl <;> rfl) ?_
  exact KKn _ ho1 (P_chg hc1) (G_of (g_chg hc1) (by decide) (by decide))
theorem l_case7c {w : pW} {b n0 : Nat} (hbn : b + 57 ≤ n0) {S : St} {L M : List St} {K : St} (hk : obk w b S L M K) {c : Nat} {X : Sh} (hu : shAt w (fun i => n0 ≤ i) (fun i => ¬ inO b i) c X) (hR : Rel S X) (hlw : n0 ≤ w.length) {k n ws aw s : Nat} {x y px py grid what : Int} {Φ : Option Value → pW → Prop} {inn : Int} {p9 : Nat} (hp : p9 < 40) {h9 q : Int} (hh9 : sm h9) (sp : S.has p9) (ho : ¬ (-9999 ≤ h9 ∧ h9 ≤ 9999))  (KKn : ∀ w' : pW, obk w' b S L M K → agr (fun i => inO b i ∨ n0 ≤ i) w w' → gro 2000 (2 * pwsz (nP 0) + 12000) w w' → qE 158 (1559, [(9, .int (iI 0)), (8, .ref c), (5, .int (iI (k : Int))), (4, .int (iI (n : Int))), (3, .ref ws), (2, .ref aw), (1, .ref b), (0, .ref s)], [], w') Φ) : qE 158 (796, [(17, .int (iI h9)), (16, .int (iI inn)), (15, .int (iI what)), (14, .int (iI q)), (13, .int (iI (p9 : Int))), (12, .int (iI py)), (11, .int (iI px)), (10, .int (iI grid)), (9, .int (iI 1)), (8, .ref c), (7, .int (iI y)), (6, .int (iI x)), (5, .int (iI (k : Int))), (4, .int (iI (n : Int))), (3, .ref ws), (2, .ref aw), (1, .ref b), (0, .ref s)], [], w) Φ := by
  have hko := obk_ok hk
  have hIn := hR.In hko
  have hX9 := hIn.1
  obtain ⟨fb, hbo⟩ := obk_obj hk
  obtain ⟨fc, hco⟩ := sh_obj hu
  have hfs := Sh.free_sm X
  have has := Sh.at_sm X px py
  obtain ⟨pa, fa, ha, pf, gf, hf, ff, hP⟩ := id hu
  obtain ⟨E, hE, hE2⟩ := hko.E
  obtain ⟨rp, ep, -, hrp⟩ := hP.2.2.2.2.1 p9 _ _ _ hp (hR.pt hp sp)
  refine pe_go (pc := 796) rfl (s_iload rfl) ?_
  refine pe_go rfl (s_if_lt_f ⟨by omega, by omega⟩ (by omega)) ?_
  refine pe_go (pc := 801) rfl (s_aload rfl) ?_
  refine pe_go (pc := 803) rfl (s_getf (v := .ref pa) hP.2.1 rfl) ?_
  refine pe_go (pc := 806) rfl (s_iload rfl) ?_
  refine pe_go (pc := 808) rfl (s_aald hP.2.2.1 (k := p9) (by omega) (by omega) ep) ?_
  refine pe_go (pc := 809) rfl s_ifnull_f ?_
  refine pe_go (pc := 812) rfl (s_iload rfl) ?_
  refine pe_go (pc := 814) rfl (s_sipush (z := -10000) rfl) ?_
  by_cases c1 : h9 ≤ (-10000)
  · skip
    refine pe_go rfl (s_icmp_le_t hh9 ⟨by decide, by decide⟩ c1) ?_
    refine pe_go (pc := 832) rfl (s_iconst (z := 0) rfl) ?_
    refine pe_go (pc := 833) rfl (s_istore (lv' := [(9, .int (iI 0)), (17, .int (iI h9)), (16, .int (iI inn)), (15, .int (iI what)), (14, .int (iI q)), (13, .int (iI (p9 : Int))), (12, .int (iI py)), (11, .int (iI px)), (10, .int (iI grid)), (8, .ref c), (7, .int (iI y)), (6, .int (iI x)), (5, .int (iI (k : Int))), (4, .int (iI (n : Int))), (3, .ref ws), (2, .ref aw), (1, .ref b), (0, .ref s)]) rfl) ?_
    refine pe_go (pc := 835) rfl (s_aload_n rfl) ?_
    refine pe_go (pc := 836) rfl (s_iload rfl) ?_
    refine pe_go (pc := 838) rfl (s_iload rfl) ?_
    refine pe_callE rfl (s_invV rfl hbo rfl rfl) (k_heightN hk (Or.inr ⟨p9, hp, rfl⟩) hh9 (fun p8 h1 e z => ho z.2)) ?_
    rintro _ w2 ⟨rfl, ho2, hc2⟩
    rw [show bI false = iI 0 from rfl]
    refine pe_go (pc := 843) rfl (s_iload rfl) ?_
    refine pe_go rfl (s_icmp_eq_t ⟨by decide, by decide⟩ ⟨by decide, by decide⟩ (by decide)) ?_
    refine pe_go (pc := 850) rfl (s_iload rfl) ?_
    refine pe_go rfl (s_if_eq_t ⟨by decide, by decide⟩ (by decide)) ?_
    refine pe_go (pc := 897) rfl s_goto ?_
    refine pe_few (lv := [(9, .int (iI 0)), (8, .ref c), (5, .int (iI (k : Int))), (4, .int (iI (n : Int))), (3, .ref ws), (2, .ref aw), (1, .ref b), (0, .ref s)]) rfl rfl (by intro q hq; simp only [List.mem_cons, List.not_mem_nil, or_false] at hq; rcases hq with rfl | rfl | rfl | rfl | rfl | rfl | rfl | rfl <;> rfl) ?_
    exact KKn _ ho2 (P_chg hc2) (G_of (g_chg hc2) (by decide) (by decide))
  · skip
    refine pe_go rfl (s_icmp_le_f hh9 ⟨by decide, by decide⟩ c1) ?_
    refine pe_go (pc := 820) rfl (s_iload rfl) ?_
    refine pe_go (pc := 822) rfl (s_sipush (z := 10000) rfl) ?_
    refine pe_go rfl (s_icmp_ge_t hh9 ⟨by decide, by decide⟩ (by omega)) ?_
    refine pe_go (pc := 832) rfl (s_iconst (z := 0) rfl) ?_
    refine pe_go (pc := 833) rfl (s_istore (lv' := [(9, .int (iI 0)), (17, .int (iI h9)), (16, .int (iI inn)), (15, .int (iI what)), (14, .int (iI q)), (13, .int (iI (p9 : Int))), (12, .int (iI py)), (11, .int (iI px)), (10, .int (iI grid)), (8, .ref c), (7, .int (iI y)), (6, .int (iI x)), (5, .int (iI (k : Int))), (4, .int (iI (n : Int))), (3, .ref ws), (2, .ref aw), (1, .ref b), (0, .ref s)]) rfl) ?_
    refine pe_go (pc := 835) rfl (s_aload_n rfl) ?_
    refine pe_go (pc := 836) rfl (s_iload rfl) ?_
    refine pe_go (pc := 838) rfl (s_iload rfl) ?_
    refine pe_callE rfl (s_invV rfl hbo rfl rfl) (k_heightN hk (Or.inr ⟨p9, hp, rfl⟩) hh9 (fun p8 h1 e z => ho z.2)) ?_
    rintro _ w3 ⟨rfl, ho3, hc3⟩
    rw [show bI false = iI 0 from rfl]
    refine pe_go (pc := 843) rfl (s_iload rfl) ?_
    refine pe_go rfl (s_icmp_eq_t ⟨by decide, by decide⟩ ⟨by decide, by decide⟩ (by decide)) ?_
    refine pe_go (pc := 850) rfl (s_iload rfl) ?_
    refine pe_go rfl (s_if_eq_t ⟨by decide, by decide⟩ (by decide)) ?_
    refine pe_go (pc := 897) rfl s_goto ?_
    refine pe_few (lv := [(9, .int (iI 0)), (8, .ref c), (5, .int (iI (k : Int))), (4, .int (iI (n : Int))), (3, .ref ws), (2, .ref aw), (1, .ref b), (0, .ref s)]) rfl rfl (by intro q hq; simp only [List.mem_cons, List.not_mem_nil, or_false] at hq; rcases hq with rfl | rfl | rfl | rfl | rfl | rfl | rfl | rfl <;> rfl) ?_
    exact KKn _ ho3 (P_chg hc3) (G_of (g_chg hc3) (by decide) (by decide))
theorem l_case7e {w : pW} {b n0 c m : Nat} (hm : w.length = m) {X : Sh} {S : St} {pa fa ha : Nat} {pf gf hf : Nat → Option Nat} {ff : Nat → Nat} (hP : shP w (fun i => n0 ≤ i) (fun i => ¬ inO b i) c X pa fa ha pf gf hf ff) {p9 rp : Nat} (hp : p9 < 40) (ep : pf p9 = some rp) (hrp : rowI w rp 3 (row3 (S.xs p9) (S.ys p9) (S.hs p9))) {k n ws aw s : Nat} {x y px py grid what h9 inn q : Int} {Φ : Option Value → pW → Prop} (KK : qE 158 (896, [(9, .int (iI 1)), (8, .ref c), (5, .int (iI (k : Int))), (4, .int (iI (n : Int))), (3, .ref ws), (2, .ref aw), (1, .ref b), (0, .ref s)], [.ref m, .int (iI (p9 : Int)), .ref pa], w ++ [.inl (0, 3, .inl (fun j => iI (row3 (S.xs p9) (S.ys p9) h9 j)))]) Φ) : qE 158 (855, [(17, .int (iI h9)), (16, .int (iI inn)), (15, .int (iI what)), (14, .int (iI q)), (13, .int (iI (p9 : Int))), (12, .int (iI py)), (11, .int (iI px)), (10, .int (iI grid)), (9, .int (iI 1)), (8, .ref c), (7, .int (iI y)), (6, .int (iI x)), (5, .int (iI (k : Int))), (4, .int (iI (n : Int))), (3, .ref ws), (2, .ref aw), (1, .ref b), (0, .ref s)], [], w) Φ := by
  refine pe_go (pc := 855) rfl (s_aload rfl) ?_
  refine pe_go (pc := 857) rfl (s_getf (v := .ref pa) hP.2.1 rfl) ?_
  refine pe_go (pc := 860) rfl (s_iload rfl) ?_
  refine pe_go (pc := 862) rfl (s_iconst (z := 3) rfl) ?_
  refine pe_go (pc := 863) rfl (s_newM (n := 3) hm rfl (by decide)) ?_
  refine pe_go (pc := 865) rfl (s_dup rfl) ?_
  refine pe_go (pc := 866) rfl (s_iconst (z := 0) rfl) ?_
  refine pe_go (pc := 867) rfl (s_aload rfl) ?_
  refine pe_go (pc := 869) rfl (s_getf (v := .ref pa) (cell_app hP.2.1) rfl) ?_
  refine pe_go (pc := 872) rfl (s_iload rfl) ?_
  refine pe_go (pc := 874) rfl (s_aald (cell_app hP.2.2.1) (k := p9) (by omega) (by omega) ep) ?_
  refine pe_go (pc := 875) rfl (s_iconst (z := 0) rfl) ?_
  refine pe_go (pc := 876) rfl (s_iald (n := 3) (f := row3 (S.xs p9) (S.ys p9) (S.hs p9)) (v := S.xs p9) (cell_app hrp) (k := 0) (by omega) (by omega) (by decide) rfl) ?_
  refine pe_go (pc := 877) rfl (s_iast (n := 3) (f := fun _ => (0 : Int)) (w' := w ++ [.inl (0, 3, .inl (fun j => iI ((uZ (fun _ => (0 : Int)) 0 (S.xs p9)) j)))]) (get_end hm) (k := 0) (by omega) (by omega) (by decide) (set_end hm)) ?_
  refine pe_go (pc := 878) rfl (s_dup rfl) ?_
  refine pe_go (pc := 879) rfl (s_iconst (z := 1) rfl) ?_
  refine pe_go (pc := 880) rfl (s_aload rfl) ?_
  refine pe_go (pc := 882) rfl (s_getf (v := .ref pa) (cell_app hP.2.1) rfl) ?_
  refine pe_go (pc := 885) rfl (s_iload rfl) ?_
  refine pe_go (pc := 887) rfl (s_aald (cell_app hP.2.2.1) (k := p9) (by omega) (by omega) ep) ?_
  refine pe_go (pc := 888) rfl (s_iconst (z := 1) rfl) ?_
  refine pe_go (pc := 889) rfl (s_iald (n := 3) (f := row3 (S.xs p9) (S.ys p9) (S.hs p9)) (v := S.ys p9) (cell_app hrp) (k := 1) (by omega) (by omega) (by decide) rfl) ?_
  refine pe_go (pc := 890) rfl (s_iast (n := 3) (f := uZ (fun _ => (0 : Int)) 0 (S.xs p9)) (w' := w ++ [.inl (0, 3, .inl (fun j => iI ((uZ (uZ (fun _ => (0 : Int)) 0 (S.xs p9)) 1 (S.ys p9)) j)))]) (get_end hm) (k := 1) (by omega) (by omega) (by decide) (set_end hm)) ?_
  refine pe_go (pc := 891) rfl (s_dup rfl) ?_
  refine pe_go (pc := 892) rfl (s_iconst (z := 2) rfl) ?_
  refine pe_go (pc := 893) rfl (s_iload rfl) ?_
  refine pe_go (pc := 895) rfl (s_iast (n := 3) (f := uZ (uZ (fun _ => (0 : Int)) 0 (S.xs p9)) 1 (S.ys p9)) (w' := w ++ [.inl (0, 3, .inl (fun j => iI ((uZ (uZ (uZ (fun _ => (0 : Int)) 0 (S.xs p9)) 1 (S.ys p9)) 2 h9) j)))]) (get_end hm) (k := 2) (by omega) (by omega) (by decide) (set_end hm)) ?_
  refine pe_few (lv := [(9, .int (iI 1)), (8, .ref c), (5, .int (iI (k : Int))), (4, .int (iI (n : Int))), (3, .ref ws), (2, .ref aw), (1, .ref b), (0, .ref s)]) rfl rfl (by intro q hq; simp only [List.mem_cons, List.not_mem_nil, or_false] at hq; rcases hq with rfl | rfl | rfl | rfl | rfl | rfl | rfl | rfl <;> rfl) ?_
  exact KK
theorem l_case7d {w : pW} {b n0 : Nat} (hbn : b + 57 ≤ n0) {S : St} {L M : List St} {K : St} (hk : obk w b S L M K) {c : Nat} {X : Sh} (hu : shAt w (fun i => n0 ≤ i) (fun i => ¬ inO b i) c X) (hR : Rel S X) (hlw : n0 ≤ w.length) {k n ws aw s : Nat} {x y px py grid what : Int} {Φ : Option Value → pW → Prop} {inn : Int} {p9 : Nat} (hp : p9 < 40) {h9 q : Int} (hh9 : sm h9) (sp : S.has p9) (h1 : -9999 ≤ h9) (h2 : h9 ≤ 9999) (KKd : ∀ (w' : pW) (S' : St) (X' : Sh), obk w' b S' (pshL S L) M K → Rel S' X' → shAt w' (fun i => n0 ≤ i) (fun i => ¬ inO b i) c X' → agr (fun i => inO b i ∨ n0 ≤ i) w w' → gro 2000 (2 * pwsz (nP 0) + 12000) w w' → qE 158 (1559, [(9, .int (iI 1)), (8, .ref c), (5, .int (iI (k : Int))), (4, .int (iI (n : Int))), (3, .ref ws), (2, .ref aw), (1, .ref b), (0, .ref s)], [], w') Φ)  : qE 158 (796, [(17, .int (iI h9)), (16, .int (iI inn)), (15, .int (iI what)), (14, .int (iI q)), (13, .int (iI (p9 : Int))), (12, .int (iI py)), (11, .int (iI px)), (10, .int (iI grid)), (9, .int (iI 1)), (8, .ref c), (7, .int (iI y)), (6, .int (iI x)), (5, .int (iI (k : Int))), (4, .int (iI (n : Int))), (3, .ref ws), (2, .ref aw), (1, .ref b), (0, .ref s)], [], w) Φ := by
  have hko := obk_ok hk
  have hIn := hR.In hko
  have hX9 := hIn.1
  obtain ⟨fb, hbo⟩ := obk_obj hk
  obtain ⟨fc, hco⟩ := sh_obj hu
  have hfs := Sh.free_sm X
  have has := Sh.at_sm X px py
  obtain ⟨pa, fa, ha, pf, gf, hf, ff, hP⟩ := id hu
  obtain ⟨E, hE, hE2⟩ := hko.E
  obtain ⟨rp, ep, -, hrp⟩ := hP.2.2.2.2.1 p9 _ _ _ hp (hR.pt hp sp)
  refine pe_go (pc := 796) rfl (s_iload rfl) ?_
  refine pe_go rfl (s_if_lt_f ⟨by omega, by omega⟩ (by omega)) ?_
  refine pe_go (pc := 801) rfl (s_aload rfl) ?_
  refine pe_go (pc := 803) rfl (s_getf (v := .ref pa) hP.2.1 rfl) ?_
  refine pe_go (pc := 806) rfl (s_iload rfl) ?_
  refine pe_go (pc := 808) rfl (s_aald hP.2.2.1 (k := p9) (by omega) (by omega) ep) ?_
  refine pe_go (pc := 809) rfl s_ifnull_f ?_
  refine pe_go (pc := 812) rfl (s_iload rfl) ?_
  refine pe_go (pc := 814) rfl (s_sipush (z := -10000) rfl) ?_
  refine pe_go rfl (s_icmp_le_f hh9 ⟨by decide, by decide⟩ (by omega)) ?_
  refine pe_go (pc := 820) rfl (s_iload rfl) ?_
  refine pe_go (pc := 822) rfl (s_sipush (z := 10000) rfl) ?_
  refine pe_go rfl (s_icmp_ge_f hh9 ⟨by decide, by decide⟩ (by omega)) ?_
  refine pe_go (pc := 828) rfl (s_iconst (z := 1) rfl) ?_
  refine pe_go (pc := 829) rfl s_goto ?_
  refine pe_go (pc := 833) rfl (s_istore (lv' := [(9, .int (iI 1)), (17, .int (iI h9)), (16, .int (iI inn)), (15, .int (iI what)), (14, .int (iI q)), (13, .int (iI (p9 : Int))), (12, .int (iI py)), (11, .int (iI px)), (10, .int (iI grid)), (8, .ref c), (7, .int (iI y)), (6, .int (iI x)), (5, .int (iI (k : Int))), (4, .int (iI (n : Int))), (3, .ref ws), (2, .ref aw), (1, .ref b), (0, .ref s)]) rfl) ?_
  refine pe_go (pc := 835) rfl (s_aload_n rfl) ?_
  refine pe_go (pc := 836) rfl (s_iload rfl) ?_
  refine pe_go (pc := 838) rfl (s_iload rfl) ?_
  refine pe_callE rfl (s_invV rfl hbo rfl rfl) (k_heightY hk hp sp h1 h2) ?_
  rintro _ w1 ⟨rfl, ho1, hc1⟩
  rw [show bI true = iI 1 from rfl]
  refine pe_go (pc := 843) rfl (s_iload rfl) ?_
  refine pe_go rfl (s_icmp_eq_t ⟨by decide, by decide⟩ ⟨by decide, by decide⟩ (by decide)) ?_
  refine pe_go (pc := 850) rfl (s_iload rfl) ?_
  refine pe_go rfl (s_if_eq_f ⟨by decide, by decide⟩ (by decide)) ?_
  obtain ⟨pa2, fa2, ha2, pf2, gf2, hf2, ff2, hP2⟩ := sh_chg hbn hu hc1
  obtain ⟨r9, e9, -, hr9⟩ := hP2.2.2.2.2.1 p9 _ _ _ hp (hR.pt hp sp)
  refine pe_few (lv := [(17, .int (iI h9)), (16, .int (iI inn)), (15, .int (iI what)), (14, .int (iI q)), (13, .int (iI (p9 : Int))), (12, .int (iI py)), (11, .int (iI px)), (10, .int (iI grid)), (9, .int (iI 1)), (8, .ref c), (7, .int (iI y)), (6, .int (iI x)), (5, .int (iI (k : Int))), (4, .int (iI (n : Int))), (3, .ref ws), (2, .ref aw), (1, .ref b), (0, .ref s)]) rfl rfl (by intro q hq; simp only [List.mem_cons, List.not_mem_nil, or_false] at hq; rcases hq with rfl | rfl | rfl | rfl | rfl | rfl | rfl | rfl | rfl | rfl | rfl | rfl | rfl | rfl | rfl | rfl | rfl | rfl <;> rfl) ?_
  refine l_case7e (m := w1.length) rfl hP2 hp e9 hr9 ?_
  have hQ9 := new_ok (w := w1) hbn (by have := hc1.2.1; omega)
  have hPa := sh_app hP2 [.inl (0, 3, .inl (fun j => iI (row3 (S.xs p9) (S.ys p9) h9 j)))]
  refine pe_go (pc := 896) rfl (s_aast (kd := 3) (k := p9) (cell_app hP2.2.2.1) (holds_row (get_end rfl)) rfl ⟨hp, by decide⟩ rfl) ?_
  refine pe_go (pc := 897) rfl s_goto ?_
  have hPb := sh_pt (p := p9) (x := S.xs p9) (y := S.ys p9) (z := h9) (r := w1.length) hPa (get_end rfl) hQ9
  have hA9 : agr (fun i => n0 ≤ i) w1 (w1 ++ [.inl (0, 3, .inl (fun j => iI (row3 (S.xs p9) (S.ys p9) h9 j)))]) := agr_app
  have hG9 := gro_app w1 (.inl (0, 3, .inl (fun j => iI (row3 (S.xs p9) (S.ys p9) h9 j))))
  have hc9 := hPa.2.2.1
  generalize w1 ++ [.inl (0, 3, .inl (fun j => iI (row3 (S.xs p9) (S.ys p9) h9 j)))] = w9 at hPb hA9 hG9 hc9 ⊢
  have hB9 : agr (fun i => n0 ≤ i) w9 (w9.set pa2 (.inl (3, 40, rfs (va_up pf2 p9 (some w1.length))))) := agr_set hP2.1.2.1
  exact KKd _ _ _ (obk_own hbn (obk_own hbn ho1 hA9) hB9) (Rel.height hR sp) ⟨_, _, _, _, _, _, _, hPb⟩ (P_trans (P_chg hc1) (P_own (P_trans hA9 hB9))) (G_of (n := 1) (m := 3) (gro_mono (gro_trans (g_chg hc1) (gro_trans hG9 (gro_set hc9 rfl))) (by decide) (by show 0 + ((3 + 0) + 0) ≤ 3; decide)) (by decide) (by decide))
