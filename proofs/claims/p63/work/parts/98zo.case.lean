/-! THE LAW: one turn, case by case. Rows laid by program (wip/p63/wk.py, hw.py, lawcase.py, mk98zo.py). -/
theorem P_chg {b n0 : Nat} {w w' : pW} (h : chg b w w') : agr (fun i => inO b i ∨ n0 ≤ i) w w' := agr_mono h.1 (fun _ z => Or.inl z)
theorem P_own {b n0 : Nat} {w w' : pW} (h : agr (fun i => n0 ≤ i) w w') : agr (fun i => inO b i ∨ n0 ≤ i) w w' := agr_mono h (fun _ z => Or.inr z)
theorem P_trans {P : Nat → Prop} {w w1 w2 : pW} (h : agr P w w1) (k : agr P w1 w2) : agr P w w2 := agr_trans h k (fun _ z => z)
theorem g_chg {b : Nat} {w w' : pW} (h : chg b w w') : gro 0 0 w w' := ⟨by have := h.2.1; omega, by have := h.2.2; omega⟩
theorem G_of {n m : Nat} {w w' : pW} (h : gro n m w w') (h1 : n ≤ 2000) (h2 : m ≤ 12000) : gro 2000 (2 * pwsz (nP 0) + 12000) w w' := gro_mono h h1 (by omega)
theorem obk_own {w w' : pW} {b n0 : Nat} (hbn : b + 57 ≤ n0) {S : St} {L M : List St} {K : St} (h : obk w b S L M K) (k : agr (fun i => n0 ≤ i) w w') : obk w' b S L M K := obk_agr h k (fun i z q => by have := q.2; have z : n0 ≤ i := z; omega)
theorem sh_chg {w w' : pW} {b n0 c : Nat} {X : Sh} (hbn : b + 57 ≤ n0) (h : shAt w (fun i => n0 ≤ i) (fun i => ¬ inO b i) c X) (k : chg b w w') : shAt w' (fun i => n0 ≤ i) (fun i => ¬ inO b i) c X := sh_agr h k.1 (fun i z => ⟨fun q => by have := z.2; have q : n0 ≤ i := q; omega, fun q => q z⟩)
theorem new_ok {w : pW} {b n0 : Nat} (hbn : b + 57 ≤ n0) (hlw : n0 ≤ w.length) : ¬ inO b w.length := fun z => by have := z.2; omega
/-- a point may go, by its sheet and by its mesh -/
theorem Rel.goes_iff {S : St} {X : Sh} (h : Rel S X) (hS : S.Ok) {p : Nat} (hp : p < 40) : ((X.1 p).isSome = true ∧ ∀ q : Nat, q < 40 → X.2.1 p q = 0) ↔ S.loose p := by
  constructor
  · rintro ⟨z1, z2⟩
    refine ⟨(h.1 p hp).mp z1, bt_ext (fun j hj => ?_)⟩
    rw [show lI 0 = (0 : Int64) from rfl, bt_0]
    rcases Nat.lt_or_ge j 40 with c | c
    · have e := z2 j c
      rw [h.2.2.1 p j hp c] at e
      exact Bool.eq_false_iff.mpr (St.how_0.mp e)
    · exact hS.2.2.2.2.2.2.2.1 p hp j c
  · intro z
    refine ⟨(h.1 p hp).mpr z.1, fun q hq => ?_⟩
    rw [h.2.2.1 p q hp hq]
    exact St.how_0.mpr (St.loose_b z q hq)
theorem goes_y {w : pW} {O Q : Nat → Prop} {a : Nat} {X : Sh} (hu : shAt w O Q a X) {S : St} (hR : Rel S X) (hS : S.Ok) {p : Nat} (hp : p < 40) (h : S.loose p) : pRun 131 [.ref a, .int (iI (p : Int))] w (some (.int (iI 1))) w := by
  have := w_goes hu (hR.In hS).1 hp (fun q hq => (hR.In hS).2.1 p q hp hq)
  rw [decide_eq_true ((hR.goes_iff hS hp).mpr h)] at this
  exact this
theorem goes_n {w : pW} {O Q : Nat → Prop} {a : Nat} {X : Sh} (hu : shAt w O Q a X) {S : St} (hR : Rel S X) (hS : S.Ok) {z : Int} (hz : ptN z) (h : ∀ p : Nat, z = (p : Int) → ¬ S.loose p) : pRun 131 [.ref a, .int (iI z)] w (some (.int (iI 0))) w := by
  rcases hz with rfl | ⟨p, hp, rfl⟩
  · exact w_goesN (z := -1) ⟨by decide, by decide⟩ (by decide)
  · have := w_goes hu (hR.In hS).1 hp (fun q hq => (hR.In hS).2.1 p q hp hq)
    rw [decide_eq_false (fun z => h p rfl ((hR.goes_iff hS hp).mp z))] at this
    exact this
theorem l_case1_1 {w : pW} {b n0 : Nat} (hbn : b + 57 ≤ n0) {S : St} {L M : List St} {K : St} (hk : obk w b S L M K) {c : Nat} {X : Sh} (hu : shAt w (fun i => n0 ≤ i) (fun i => ¬ inO b i) c X) (hR : Rel S X) (hlw : n0 ≤ w.length) {k n ws aw s : Nat} {x y px py grid what : Int} {Φ : Option Value → pW → Prop} {p q : Int} (sx : sm px) (sy : sm py) (hin : inSq px py) (KKd : ∀ (w' : pW) (S' : St) (X' : Sh), obk w' b S' (pshL S L) M K → Rel S' X' → shAt w' (fun i => n0 ≤ i) (fun i => ¬ inO b i) c X' → agr (fun i => inO b i ∨ n0 ≤ i) w w' → gro 2000 (2 * pwsz (nP 0) + 12000) w w' → qE 158 (1559, [(9, .int (iI 1)), (8, .ref c), (5, .int (iI (k : Int))), (4, .int (iI (n : Int))), (3, .ref ws), (2, .ref aw), (1, .ref b), (0, .ref s)], [], w') Φ) (KKn : ∀ w' : pW, obk w' b S L M K → agr (fun i => inO b i ∨ n0 ≤ i) w w' → gro 2000 (2 * pwsz (nP 0) + 12000) w w' → qE 158 (1559, [(9, .int (iI 0)), (8, .ref c), (5, .int (iI (k : Int))), (4, .int (iI (n : Int))), (3, .ref ws), (2, .ref aw), (1, .ref b), (0, .ref s)], [], w') Φ) : qE 158 (260, [(16, .int (iI 1)), (15, .int (iI what)), (14, .int (iI q)), (13, .int (iI p)), (12, .int (iI py)), (11, .int (iI px)), (10, .int (iI grid)), (9, .int (iI 1)), (8, .ref c), (7, .int (iI y)), (6, .int (iI x)), (5, .int (iI (k : Int))), (4, .int (iI (n : Int))), (3, .ref ws), (2, .ref aw), (1, .ref b), (0, .ref s)], [], w) Φ := by
  have hko := obk_ok hk
  have hIn := hR.In hko
  have hX9 := hIn.1
  obtain ⟨fb, hbo⟩ := obk_obj hk
  obtain ⟨fc, hco⟩ := sh_obj hu
  have hfs := Sh.free_sm X
  have has := Sh.at_sm X px py
  have htk := hR.takes_iff (x := px) (y := py)
  refine pe_go (pc := 260) rfl (s_aload rfl) ?_
  refine pe_call rfl (s_invV rfl hco rfl rfl) (w_free hu hX9) ?_
  refine pe_go (pc := 265) rfl (s_istore (lv' := [(17, .int (iI X.free)), (16, .int (iI 1)), (15, .int (iI what)), (14, .int (iI q)), (13, .int (iI p)), (12, .int (iI py)), (11, .int (iI px)), (10, .int (iI grid)), (9, .int (iI 1)), (8, .ref c), (7, .int (iI y)), (6, .int (iI x)), (5, .int (iI (k : Int))), (4, .int (iI (n : Int))), (3, .ref ws), (2, .ref aw), (1, .ref b), (0, .ref s)]) rfl) ?_
  refine pe_go (pc := 267) rfl (s_iload rfl) ?_
  refine pe_go rfl (s_if_eq_f ⟨by decide, by decide⟩ (by decide)) ?_
  refine pe_go (pc := 272) rfl (s_iload rfl) ?_
  by_cases c1 : X.free < 0
  · skip
    refine pe_go rfl (s_if_lt_t hfs c1) ?_
    refine pe_go (pc := 293) rfl (s_iconst (z := 0) rfl) ?_
    refine pe_go (pc := 294) rfl (s_istore (lv' := [(9, .int (iI 0)), (17, .int (iI X.free)), (16, .int (iI 1)), (15, .int (iI what)), (14, .int (iI q)), (13, .int (iI p)), (12, .int (iI py)), (11, .int (iI px)), (10, .int (iI grid)), (8, .ref c), (7, .int (iI y)), (6, .int (iI x)), (5, .int (iI (k : Int))), (4, .int (iI (n : Int))), (3, .ref ws), (2, .ref aw), (1, .ref b), (0, .ref s)]) rfl) ?_
    refine pe_go (pc := 296) rfl (s_aload_n rfl) ?_
    refine pe_go (pc := 297) rfl (s_iload rfl) ?_
    refine pe_go (pc := 299) rfl (s_iload rfl) ?_
    refine pe_callE rfl (s_invV rfl hbo rfl rfl) (k_pointN hk sx sy (fun z => by have z := htk.mp z; first | exact hin z.1 | omega)) ?_
    rintro _ w2 ⟨rfl, ho2, hc2⟩
    refine pe_go (pc := 304) rfl (s_iload rfl) ?_
    refine pe_go rfl (s_if_eq_t ⟨by decide, by decide⟩ (by decide)) ?_
    refine pe_go (pc := 314) rfl (s_iconst (z := -1) rfl) ?_
    refine pe_go rfl (s_icmp_eq_t ⟨by decide, by decide⟩ ⟨by decide, by decide⟩ (by decide)) ?_
    refine pe_go (pc := 320) rfl (s_iload rfl) ?_
    refine pe_go rfl (s_if_eq_t ⟨by decide, by decide⟩ (by decide)) ?_
    refine pe_go (pc := 335) rfl s_goto ?_
    refine pe_few (lv := [(9, .int (iI 0)), (8, .ref c), (5, .int (iI (k : Int))), (4, .int (iI (n : Int))), (3, .ref ws), (2, .ref aw), (1, .ref b), (0, .ref s)]) rfl rfl (by intro q hq; simp only [List.mem_cons, List.not_mem_nil, or_false] at hq; rcases hq with rfl | rfl | rfl | rfl | rfl | rfl | rfl | rfl <;> rfl) ?_
    exact KKn _ ho2 (P_chg hc2) (G_of (g_chg hc2) (by decide) (by decide))
  · skip
    refine pe_go rfl (s_if_lt_f hfs c1) ?_
    refine pe_go (pc := 277) rfl (s_aload rfl) ?_
    refine pe_go (pc := 279) rfl (s_iload rfl) ?_
    refine pe_go (pc := 281) rfl (s_iload rfl) ?_
    refine pe_call rfl (s_invV rfl hco rfl rfl) (w_at hu hX9 sx sy) ?_
    by_cases c3 : 0 ≤ (X.at px py)
    · skip
      refine pe_go rfl (s_if_ge_t has c3) ?_
      refine pe_go (pc := 293) rfl (s_iconst (z := 0) rfl) ?_
      refine pe_go (pc := 294) rfl (s_istore (lv' := [(9, .int (iI 0)), (17, .int (iI X.free)), (16, .int (iI 1)), (15, .int (iI what)), (14, .int (iI q)), (13, .int (iI p)), (12, .int (iI py)), (11, .int (iI px)), (10, .int (iI grid)), (8, .ref c), (7, .int (iI y)), (6, .int (iI x)), (5, .int (iI (k : Int))), (4, .int (iI (n : Int))), (3, .ref ws), (2, .ref aw), (1, .ref b), (0, .ref s)]) rfl) ?_
      refine pe_go (pc := 296) rfl (s_aload_n rfl) ?_
      refine pe_go (pc := 297) rfl (s_iload rfl) ?_
      refine pe_go (pc := 299) rfl (s_iload rfl) ?_
      refine pe_callE rfl (s_invV rfl hbo rfl rfl) (k_pointN hk sx sy (fun z => by have z := htk.mp z; first | exact hin z.1 | omega)) ?_
      rintro _ w4 ⟨rfl, ho4, hc4⟩
      refine pe_go (pc := 304) rfl (s_iload rfl) ?_
      refine pe_go rfl (s_if_eq_t ⟨by decide, by decide⟩ (by decide)) ?_
      refine pe_go (pc := 314) rfl (s_iconst (z := -1) rfl) ?_
      refine pe_go rfl (s_icmp_eq_t ⟨by decide, by decide⟩ ⟨by decide, by decide⟩ (by decide)) ?_
      refine pe_go (pc := 320) rfl (s_iload rfl) ?_
      refine pe_go rfl (s_if_eq_t ⟨by decide, by decide⟩ (by decide)) ?_
      refine pe_go (pc := 335) rfl s_goto ?_
      refine pe_few (lv := [(9, .int (iI 0)), (8, .ref c), (5, .int (iI (k : Int))), (4, .int (iI (n : Int))), (3, .ref ws), (2, .ref aw), (1, .ref b), (0, .ref s)]) rfl rfl (by intro q hq; simp only [List.mem_cons, List.not_mem_nil, or_false] at hq; rcases hq with rfl | rfl | rfl | rfl | rfl | rfl | rfl | rfl <;> rfl) ?_
      exact KKn _ ho4 (P_chg hc4) (G_of (g_chg hc4) (by decide) (by decide))
    · skip
      refine pe_go rfl (s_if_ge_f has c3) ?_
      refine pe_go (pc := 289) rfl (s_iconst (z := 1) rfl) ?_
      refine pe_go (pc := 290) rfl s_goto ?_
      refine pe_go (pc := 294) rfl (s_istore (lv' := [(9, .int (iI 1)), (17, .int (iI X.free)), (16, .int (iI 1)), (15, .int (iI what)), (14, .int (iI q)), (13, .int (iI p)), (12, .int (iI py)), (11, .int (iI px)), (10, .int (iI grid)), (8, .ref c), (7, .int (iI y)), (6, .int (iI x)), (5, .int (iI (k : Int))), (4, .int (iI (n : Int))), (3, .ref ws), (2, .ref aw), (1, .ref b), (0, .ref s)]) rfl) ?_
      refine pe_go (pc := 296) rfl (s_aload_n rfl) ?_
      refine pe_go (pc := 297) rfl (s_iload rfl) ?_
      refine pe_go (pc := 299) rfl (s_iload rfl) ?_
      refine pe_callE rfl (s_invV rfl hbo rfl rfl) (k_pointY hk sx sy (htk.mpr ⟨hin, by omega, by omega⟩)) ?_
      rintro _ w5 ⟨p5, R5, hl5, rfl, hla5, hrs5, ho5, hc5⟩
      have hu2 := sh_chg hbn hu hc5
      obtain ⟨fc2, hco2⟩ := sh_obj hu2
      have hlu := hR.lu_free
      refine pe_go (pc := 304) rfl (s_iload rfl) ?_
      refine pe_go rfl (s_if_eq_f ⟨by decide, by decide⟩ (by decide)) ?_
      refine pe_go (pc := 309) rfl (s_iload rfl) ?_
      refine pe_go (pc := 311) rfl s_goto ?_
      refine pe_go rfl (s_icmp_eq_t ⟨by omega, by omega⟩ hfs (by omega)) ?_
      refine pe_go (pc := 320) rfl (s_iload rfl) ?_
      refine pe_go rfl (s_if_eq_f ⟨by decide, by decide⟩ (by decide)) ?_
      refine pe_go (pc := 325) rfl (s_aload rfl) ?_
      refine pe_go (pc := 327) rfl (s_iload rfl) ?_
      refine pe_go (pc := 329) rfl (s_iload rfl) ?_
      refine pe_callE rfl (s_invV rfl hco2 rfl rfl) (w_tellsY hin hIn hu2 (new_ok hbn (by have := hc5.2.1; omega)) ⟨by omega, by omega⟩) ?_
      rintro _ w6 ⟨k6, hk6, hf6, rfl, hs6, hI6, hA6, hg6⟩
      have ek : k6 = p5 := by omega
      subst ek
      refine pe_go (pc := 334) rfl (s_pop rfl) ?_
      refine pe_go (pc := 335) rfl s_goto ?_
      refine pe_few (lv := [(9, .int (iI 1)), (8, .ref c), (5, .int (iI (k : Int))), (4, .int (iI (n : Int))), (3, .ref ws), (2, .ref aw), (1, .ref b), (0, .ref s)]) rfl rfl (by intro q hq; simp only [List.mem_cons, List.not_mem_nil, or_false] at hq; rcases hq with rfl | rfl | rfl | rfl | rfl | rfl | rfl | rfl <;> rfl) ?_
      exact KKd _ _ _ (obk_own hbn ho5 hA6) (hR.tell hko hl5 hla5 hrs5) hs6 (P_trans (P_chg hc5) (P_own hA6)) (G_of (gro_trans (g_chg hc5) hg6) (by decide) (by decide))
theorem l_case1_0 {w : pW} {b n0 : Nat} (hbn : b + 57 ≤ n0) {S : St} {L M : List St} {K : St} (hk : obk w b S L M K) {c : Nat} {X : Sh} (hu : shAt w (fun i => n0 ≤ i) (fun i => ¬ inO b i) c X) (hR : Rel S X) (hlw : n0 ≤ w.length) {k n ws aw s : Nat} {x y px py grid what : Int} {Φ : Option Value → pW → Prop} {p q : Int} (sx : sm px) (sy : sm py) (hin : ¬ inSq px py)  (KKn : ∀ w' : pW, obk w' b S L M K → agr (fun i => inO b i ∨ n0 ≤ i) w w' → gro 2000 (2 * pwsz (nP 0) + 12000) w w' → qE 158 (1559, [(9, .int (iI 0)), (8, .ref c), (5, .int (iI (k : Int))), (4, .int (iI (n : Int))), (3, .ref ws), (2, .ref aw), (1, .ref b), (0, .ref s)], [], w') Φ) : qE 158 (260, [(16, .int (iI 0)), (15, .int (iI what)), (14, .int (iI q)), (13, .int (iI p)), (12, .int (iI py)), (11, .int (iI px)), (10, .int (iI grid)), (9, .int (iI 1)), (8, .ref c), (7, .int (iI y)), (6, .int (iI x)), (5, .int (iI (k : Int))), (4, .int (iI (n : Int))), (3, .ref ws), (2, .ref aw), (1, .ref b), (0, .ref s)], [], w) Φ := by
  have hko := obk_ok hk
  have hIn := hR.In hko
  have hX9 := hIn.1
  obtain ⟨fb, hbo⟩ := obk_obj hk
  obtain ⟨fc, hco⟩ := sh_obj hu
  have hfs := Sh.free_sm X
  have has := Sh.at_sm X px py
  have htk := hR.takes_iff (x := px) (y := py)
  refine pe_go (pc := 260) rfl (s_aload rfl) ?_
  refine pe_call rfl (s_invV rfl hco rfl rfl) (w_free hu hX9) ?_
  refine pe_go (pc := 265) rfl (s_istore (lv' := [(17, .int (iI X.free)), (16, .int (iI 0)), (15, .int (iI what)), (14, .int (iI q)), (13, .int (iI p)), (12, .int (iI py)), (11, .int (iI px)), (10, .int (iI grid)), (9, .int (iI 1)), (8, .ref c), (7, .int (iI y)), (6, .int (iI x)), (5, .int (iI (k : Int))), (4, .int (iI (n : Int))), (3, .ref ws), (2, .ref aw), (1, .ref b), (0, .ref s)]) rfl) ?_
  refine pe_go (pc := 267) rfl (s_iload rfl) ?_
  refine pe_go rfl (s_if_eq_t ⟨by decide, by decide⟩ (by decide)) ?_
  refine pe_go (pc := 293) rfl (s_iconst (z := 0) rfl) ?_
  refine pe_go (pc := 294) rfl (s_istore (lv' := [(9, .int (iI 0)), (17, .int (iI X.free)), (16, .int (iI 0)), (15, .int (iI what)), (14, .int (iI q)), (13, .int (iI p)), (12, .int (iI py)), (11, .int (iI px)), (10, .int (iI grid)), (8, .ref c), (7, .int (iI y)), (6, .int (iI x)), (5, .int (iI (k : Int))), (4, .int (iI (n : Int))), (3, .ref ws), (2, .ref aw), (1, .ref b), (0, .ref s)]) rfl) ?_
  refine pe_go (pc := 296) rfl (s_aload_n rfl) ?_
  refine pe_go (pc := 297) rfl (s_iload rfl) ?_
  refine pe_go (pc := 299) rfl (s_iload rfl) ?_
  refine pe_callE rfl (s_invV rfl hbo rfl rfl) (k_pointN hk sx sy (fun z => by have z := htk.mp z; first | exact hin z.1 | omega)) ?_
  rintro _ w1 ⟨rfl, ho1, hc1⟩
  refine pe_go (pc := 304) rfl (s_iload rfl) ?_
  refine pe_go rfl (s_if_eq_t ⟨by decide, by decide⟩ (by decide)) ?_
  refine pe_go (pc := 314) rfl (s_iconst (z := -1) rfl) ?_
  refine pe_go rfl (s_icmp_eq_t ⟨by decide, by decide⟩ ⟨by decide, by decide⟩ (by decide)) ?_
  refine pe_go (pc := 320) rfl (s_iload rfl) ?_
  refine pe_go rfl (s_if_eq_t ⟨by decide, by decide⟩ (by decide)) ?_
  refine pe_go (pc := 335) rfl s_goto ?_
  refine pe_few (lv := [(9, .int (iI 0)), (8, .ref c), (5, .int (iI (k : Int))), (4, .int (iI (n : Int))), (3, .ref ws), (2, .ref aw), (1, .ref b), (0, .ref s)]) rfl rfl (by intro q hq; simp only [List.mem_cons, List.not_mem_nil, or_false] at hq; rcases hq with rfl | rfl | rfl | rfl | rfl | rfl | rfl | rfl <;> rfl) ?_
  exact KKn _ ho1 (P_chg hc1) (G_of (g_chg hc1) (by decide) (by decide))
theorem l_case2y {w : pW} {b n0 : Nat} (hbn : b + 57 ≤ n0) {S : St} {L M : List St} {K : St} (hk : obk w b S L M K) {c : Nat} {X : Sh} (hu : shAt w (fun i => n0 ≤ i) (fun i => ¬ inO b i) c X) (hR : Rel S X) (hlw : n0 ≤ w.length) {k n ws aw s : Nat} {x y px py grid what : Int} {Φ : Option Value → pW → Prop} {q inn : Int} {p9 : Nat} (hp : p9 < 40) (hl : S.loose p9) (KKd : ∀ (w' : pW) (S' : St) (X' : Sh), obk w' b S' (pshL S L) M K → Rel S' X' → shAt w' (fun i => n0 ≤ i) (fun i => ¬ inO b i) c X' → agr (fun i => inO b i ∨ n0 ≤ i) w w' → gro 2000 (2 * pwsz (nP 0) + 12000) w w' → qE 158 (1559, [(9, .int (iI 1)), (8, .ref c), (5, .int (iI (k : Int))), (4, .int (iI (n : Int))), (3, .ref ws), (2, .ref aw), (1, .ref b), (0, .ref s)], [], w') Φ) : qE 158 (345, [(16, .int (iI inn)), (15, .int (iI what)), (14, .int (iI q)), (13, .int (iI (p9 : Int))), (12, .int (iI py)), (11, .int (iI px)), (10, .int (iI grid)), (9, .int (iI 1)), (8, .ref c), (7, .int (iI y)), (6, .int (iI x)), (5, .int (iI (k : Int))), (4, .int (iI (n : Int))), (3, .ref ws), (2, .ref aw), (1, .ref b), (0, .ref s)], [], w) Φ := by
  have hko := obk_ok hk
  have hIn := hR.In hko
  have hX9 := hIn.1
  obtain ⟨fb, hbo⟩ := obk_obj hk
  obtain ⟨fc, hco⟩ := sh_obj hu
  have hfs := Sh.free_sm X
  have has := Sh.at_sm X px py
  refine pe_go (pc := 345) rfl (s_aload rfl) ?_
  refine pe_go (pc := 347) rfl (s_iload rfl) ?_
  refine pe_call rfl (s_invV rfl hco rfl rfl) (goes_y hu hR hko hp hl) ?_
  refine pe_go (pc := 352) rfl (s_istore (lv' := [(9, .int (iI 1)), (16, .int (iI inn)), (15, .int (iI what)), (14, .int (iI q)), (13, .int (iI (p9 : Int))), (12, .int (iI py)), (11, .int (iI px)), (10, .int (iI grid)), (8, .ref c), (7, .int (iI y)), (6, .int (iI x)), (5, .int (iI (k : Int))), (4, .int (iI (n : Int))), (3, .ref ws), (2, .ref aw), (1, .ref b), (0, .ref s)]) rfl) ?_
  refine pe_go (pc := 354) rfl (s_aload_n rfl) ?_
  refine pe_go (pc := 355) rfl (s_iload rfl) ?_
  refine pe_callE rfl (s_invV rfl hbo rfl rfl) (k_dropY hk hp hl) ?_
  rintro _ w1 ⟨rfl, R1, hx1, hr1, ho1, hc1⟩
  rw [show bI true = iI 1 from rfl]
  obtain ⟨pa, fa, ha, pf, gf, hf, ff, hP⟩ := sh_chg hbn hu hc1
  refine pe_go (pc := 360) rfl (s_iload rfl) ?_
  refine pe_go rfl (s_icmp_eq_t ⟨by decide, by decide⟩ ⟨by decide, by decide⟩ (by decide)) ?_
  refine pe_go (pc := 367) rfl (s_iload rfl) ?_
  refine pe_go rfl (s_if_eq_f ⟨by decide, by decide⟩ (by decide)) ?_
  refine pe_go (pc := 372) rfl (s_aload rfl) ?_
  refine pe_go (pc := 374) rfl (s_getf (v := .ref pa) hP.2.1 rfl) ?_
  refine pe_go (pc := 377) rfl (s_iload rfl) ?_
  refine pe_go (pc := 379) rfl s_null ?_
  refine pe_go (pc := 380) rfl (s_aastN (kd := 0) (k := p9) hP.2.2.1 rfl ⟨hp, by decide, by decide⟩ rfl) ?_
  refine pe_go (pc := 381) rfl s_goto ?_
  refine pe_few (lv := [(9, .int (iI 1)), (8, .ref c), (5, .int (iI (k : Int))), (4, .int (iI (n : Int))), (3, .ref ws), (2, .ref aw), (1, .ref b), (0, .ref s)]) rfl rfl (by intro q hq; simp only [List.mem_cons, List.not_mem_nil, or_false] at hq; rcases hq with rfl | rfl | rfl | rfl | rfl | rfl | rfl | rfl <;> rfl) ?_
  have hA9 : agr (fun i => n0 ≤ i) w1 (w1.set pa (.inl (3, 40, rfs (va_up pf p9 none)))) := agr_set hP.1.2.1
  exact KKd _ _ _ (obk_own hbn ho1 hA9) (Rel.drop hR hp hx1.1 hx1.2.1 hx1.2.2.1 hx1.2.2.2 hr1) ⟨_, _, _, _, _, _, _, sh_no hP p9⟩ (P_trans (P_chg hc1) (P_own hA9)) (G_of (gro_trans (g_chg hc1) (gro_set hP.2.2.1 rfl)) (by decide) (by decide))
theorem l_case2n {w : pW} {b n0 : Nat} (hbn : b + 57 ≤ n0) {S : St} {L M : List St} {K : St} (hk : obk w b S L M K) {c : Nat} {X : Sh} (hu : shAt w (fun i => n0 ≤ i) (fun i => ¬ inO b i) c X) (hR : Rel S X) (hlw : n0 ≤ w.length) {k n ws aw s : Nat} {x y px py grid what : Int} {Φ : Option Value → pW → Prop} {q inn : Int} {p : Int} (hp : ptN p) (hl : ∀ p9 : Nat, p = (p9 : Int) → ¬ S.loose p9) (KKn : ∀ w' : pW, obk w' b S L M K → agr (fun i => inO b i ∨ n0 ≤ i) w w' → gro 2000 (2 * pwsz (nP 0) + 12000) w w' → qE 158 (1559, [(9, .int (iI 0)), (8, .ref c), (5, .int (iI (k : Int))), (4, .int (iI (n : Int))), (3, .ref ws), (2, .ref aw), (1, .ref b), (0, .ref s)], [], w') Φ) : qE 158 (345, [(16, .int (iI inn)), (15, .int (iI what)), (14, .int (iI q)), (13, .int (iI p)), (12, .int (iI py)), (11, .int (iI px)), (10, .int (iI grid)), (9, .int (iI 1)), (8, .ref c), (7, .int (iI y)), (6, .int (iI x)), (5, .int (iI (k : Int))), (4, .int (iI (n : Int))), (3, .ref ws), (2, .ref aw), (1, .ref b), (0, .ref s)], [], w) Φ := by
  have hko := obk_ok hk
  have hIn := hR.In hko
  have hX9 := hIn.1
  obtain ⟨fb, hbo⟩ := obk_obj hk
  obtain ⟨fc, hco⟩ := sh_obj hu
  have hfs := Sh.free_sm X
  have has := Sh.at_sm X px py
  refine pe_go (pc := 345) rfl (s_aload rfl) ?_
  refine pe_go (pc := 347) rfl (s_iload rfl) ?_
  refine pe_call rfl (s_invV rfl hco rfl rfl) (goes_n hu hR hko hp hl) ?_
  refine pe_go (pc := 352) rfl (s_istore (lv' := [(9, .int (iI 0)), (16, .int (iI inn)), (15, .int (iI what)), (14, .int (iI q)), (13, .int (iI p)), (12, .int (iI py)), (11, .int (iI px)), (10, .int (iI grid)), (8, .ref c), (7, .int (iI y)), (6, .int (iI x)), (5, .int (iI (k : Int))), (4, .int (iI (n : Int))), (3, .ref ws), (2, .ref aw), (1, .ref b), (0, .ref s)]) rfl) ?_
  refine pe_go (pc := 354) rfl (s_aload_n rfl) ?_
  refine pe_go (pc := 355) rfl (s_iload rfl) ?_
  refine pe_callE rfl (s_invV rfl hbo rfl rfl) (k_dropN hk hp hl) ?_
  rintro _ w1 ⟨rfl, ho1, hc1⟩
  rw [show bI false = iI 0 from rfl]
  refine pe_go (pc := 360) rfl (s_iload rfl) ?_
  refine pe_go rfl (s_icmp_eq_t ⟨by decide, by decide⟩ ⟨by decide, by decide⟩ (by decide)) ?_
  refine pe_go (pc := 367) rfl (s_iload rfl) ?_
  refine pe_go rfl (s_if_eq_t ⟨by decide, by decide⟩ (by decide)) ?_
  refine pe_few (lv := [(9, .int (iI 0)), (8, .ref c), (5, .int (iI (k : Int))), (4, .int (iI (n : Int))), (3, .ref ws), (2, .ref aw), (1, .ref b), (0, .ref s)]) rfl rfl (by intro q hq; simp only [List.mem_cons, List.not_mem_nil, or_false] at hq; rcases hq with rfl | rfl | rfl | rfl | rfl | rfl | rfl | rfl <;> rfl) ?_
  exact KKn _ ho1 (P_chg hc1) (G_of (g_chg hc1) (by decide) (by decide))
