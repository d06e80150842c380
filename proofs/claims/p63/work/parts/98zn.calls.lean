/-! THE LAW'S CALLS on its object, its history told. By hand. -/
theorem k_pointY {w : pW} {b : Nat} {S : St} {L M : List St} {K : St} (h : obk w b S L M K) {x y : Int} (hx : sm x) (hy : sm y) (ht : S.takes x y) : qC 87 [.ref b, .int (iI x), .int (iI y)] w (fun r w' => ∃ (p : Nat) (R : St), S.lu = (p : Int) ∧ r = some (.int (iI (p : Int))) ∧ S.laid R p x y ∧ (S.u_hs (uZ S.hs p 0)).rst R ∧ obk w' b R (pshL S L) M K ∧ chg b w w') := by
  obtain ⟨pre, post, hb, hO⟩ := h
  refine qc_mono (o_point hb hO hx hy) (fun r w' z => ?_)
  rcases z with ⟨-, p, R, z1, z2, z3, z4, z5⟩ | ⟨z, -⟩
  · exact ⟨p, R, z1, z2, z3, z4, ⟨pre, post, hb, z5⟩, OB_chg hb hO z5⟩
  · exact absurd ht z
theorem k_pointN {w : pW} {b : Nat} {S : St} {L M : List St} {K : St} (h : obk w b S L M K) {x y : Int} (hx : sm x) (hy : sm y) (ht : ¬ S.takes x y) : qC 87 [.ref b, .int (iI x), .int (iI y)] w (fun r w' => r = some (.int (iI (-1))) ∧ obk w' b S L M K ∧ chg b w w') := by
  obtain ⟨pre, post, hb, hO⟩ := h
  refine qc_mono (o_point hb hO hx hy) (fun r w' z => ?_)
  rcases z with ⟨z, -⟩ | ⟨-, z1, z2⟩
  · exact absurd z ht
  · exact ⟨z1, ⟨pre, post, hb, z2⟩, OB_chg hb hO z2⟩
theorem k_dropY {w : pW} {b : Nat} {S : St} {L M : List St} {K : St} (h : obk w b S L M K) {p : Nat} (hp : p < 40) (hl : S.loose p) : qC 88 [.ref b, .int (iI (p : Int))] w (fun r w' => r = some (.int (bI true)) ∧ ∃ R : St, (R.xs = S.xs ∧ R.ys = S.ys ∧ R.th = bClr S.th p ∧ R.fx = S.fx) ∧ S.rst R ∧ obk w' b R (pshL S L) M K ∧ chg b w w') := by
  obtain ⟨pre, post, hb, hO⟩ := h
  refine qc_mono (o_drop hb hO hp) (fun r w' z => ?_)
  rcases z with ⟨-, z2, R, z3, z4, z5⟩ | ⟨z, -⟩
  · exact ⟨z2, R, z3, z4, ⟨pre, post, hb, z5⟩, OB_chg hb hO z5⟩
  · exact absurd hl z
/-- a number that names a point, or none -/
def ptN (z : Int) : Prop := z = -1 ∨ ∃ p : Nat, p < 40 ∧ z = (p : Int)
theorem ptN_sm {z : Int} (h : ptN z) : sm z := by
  rcases h with rfl | ⟨p, hp, rfl⟩
  · exact ⟨by decide, by decide⟩
  · exact ⟨by omega, by omega⟩
theorem k_dropN {w : pW} {b : Nat} {S : St} {L M : List St} {K : St} (h : obk w b S L M K) {z : Int} (hz : ptN z) (hl : ∀ p : Nat, z = (p : Int) → ¬ S.loose p) : qC 88 [.ref b, .int (iI z)] w (fun r w' => r = some (.int (bI false)) ∧ obk w' b S L M K ∧ chg b w w') := by
  obtain ⟨pre, post, hb, hO⟩ := h
  rcases hz with rfl | ⟨p, hp, rfl⟩
  · refine qx_of (o_dropN hb hO (z := -1) ⟨by decide, by decide⟩ (Or.inl (by decide))) ?_
    exact ⟨rfl, ⟨pre, post, hb, hO⟩, chg_refl _ _⟩
  · refine qc_mono (o_drop hb hO hp) (fun r w' q => ?_)
    rcases q with ⟨q, -⟩ | ⟨-, q1, q2⟩
    · exact absurd q (hl p rfl)
    · exact ⟨q1, ⟨pre, post, hb, q2⟩, OB_chg hb hO q2⟩
theorem k_moveY {w : pW} {b : Nat} {S : St} {L M : List St} {K : St} (h : obk w b S L M K) {p : Nat} (hp : p < 40) {x y : Int} (hx : sm x) (hy : sm y) (hl : S.loose p) (hi : inSq x y) (ha : S.atP x y = -1) : qC 89 [.ref b, .int (iI (p : Int)), .int (iI x), .int (iI y)] w (fun r w' => r = some (.int (bI true)) ∧ ∃ R T : St, R.Ok ∧ (R.xs = S.xs ∧ R.ys = S.ys ∧ R.th = bClr S.th p ∧ R.fx = S.fx) ∧ S.rst R ∧ R.laid T p x y ∧ R.rst T ∧ obk w' b T (pshL S L) M K ∧ chg b w w') := by
  obtain ⟨pre, post, hb, hO⟩ := h
  refine qc_mono (o_move hb hO hp hx hy) (fun r w' z => ?_)
  rcases z with ⟨-, z2, R, T, z3, z4, z5, z6, z7, z8⟩ | ⟨z, -⟩
  · exact ⟨z2, R, T, z3, z4, z5, z6, z7, ⟨pre, post, hb, z8⟩, OB_chg hb hO z8⟩
  · exact absurd ⟨hl, hi, ha⟩ z
theorem k_moveN {w : pW} {b : Nat} {S : St} {L M : List St} {K : St} (h : obk w b S L M K) {z : Int} (hz : ptN z) {x y : Int} (hx : sm x) (hy : sm y) (hl : ∀ p : Nat, z = (p : Int) → ¬ (S.loose p ∧ inSq x y ∧ S.atP x y = -1)) : qC 89 [.ref b, .int (iI z), .int (iI x), .int (iI y)] w (fun r w' => r = some (.int (bI false)) ∧ obk w' b S L M K ∧ chg b w w') := by
  obtain ⟨pre, post, hb, hO⟩ := h
  rcases hz with rfl | ⟨p, hp, rfl⟩
  · refine qx_of (o_moveN hb hO (z := -1) (x := x) (y := y) ⟨by decide, by decide⟩ (Or.inl (by decide))) ?_
    exact ⟨rfl, ⟨pre, post, hb, hO⟩, chg_refl _ _⟩
  · refine qc_mono (o_move hb hO hp hx hy) (fun r w' q => ?_)
    rcases q with ⟨q, -⟩ | ⟨-, q1, q2⟩
    · exact absurd q (hl p rfl)
    · exact ⟨q1, ⟨pre, post, hb, q2⟩, OB_chg hb hO q2⟩
theorem k_fixY {w : pW} {b : Nat} {S : St} {L M : List St} {K : St} (h : obk w b S L M K) {p q : Nat} (hp : p < 40) (hq : q < 40) {E : Nat} (hE : S.ec = (E : Int)) (hE2 : E ≤ 113) (hs : S.sight p q E) (hn : ¬ S.bound p q) : qC 90 [.ref b, .int (iI (p : Int)), .int (iI (q : Int))] w (fun r w' => r = some (.int (bI true)) ∧ ∃ R : St, (R.xs = S.xs ∧ R.ys = S.ys ∧ R.th = S.th ∧ ∀ x y : Nat, R.bound x y ↔ S.bound x y ∨ eU p q x y) ∧ S.rst R ∧ obk w' b R (pshL S L) M K ∧ chg b w w') := by
  obtain ⟨pre, post, hb, hO⟩ := h
  refine qc_mono (o_fix hb hO hp hq hE hE2) (fun r w' z => ?_)
  rcases z with ⟨-, z2, R, z3, z4, z5⟩ | ⟨z, -⟩
  · exact ⟨z2, R, z3, z4, ⟨pre, post, hb, z5⟩, OB_chg hb hO z5⟩
  · exact absurd ⟨hs, hn⟩ z
theorem k_fixN {w : pW} {b : Nat} {S : St} {L M : List St} {K : St} (h : obk w b S L M K) {x y : Int} (hx : ptN x) (hy : ptN y) {E : Nat} (hE : S.ec = (E : Int)) (hE2 : E ≤ 113) (hl : ∀ p q : Nat, p < 40 → q < 40 → x = (p : Int) → y = (q : Int) → ¬ (S.sight p q E ∧ ¬ S.bound p q)) : qC 90 [.ref b, .int (iI x), .int (iI y)] w (fun r w' => r = some (.int (bI false)) ∧ obk w' b S L M K ∧ chg b w w') := by
  obtain ⟨pre, post, hb, hO⟩ := h
  rcases hx with rfl | ⟨p, hp, rfl⟩
  · refine qx_of (o_fixA hb hO (z := -1) (y := y) ⟨by decide, by decide⟩ (Or.inl (by decide))) ?_
    exact ⟨rfl, ⟨pre, post, hb, hO⟩, chg_refl _ _⟩
  · rcases hy with rfl | ⟨q, hq, rfl⟩
    · refine qx_of (o_fixB hb hO hp (z := -1) ⟨by decide, by decide⟩ (Or.inl (by decide))) ?_
      exact ⟨rfl, ⟨pre, post, hb, hO⟩, chg_refl _ _⟩
    · refine qc_mono (o_fix hb hO hp hq hE hE2) (fun r w' z => ?_)
      rcases z with ⟨z, -⟩ | ⟨-, q1, q2⟩
      · exact absurd z (hl p q hp hq rfl rfl)
      · exact ⟨q1, ⟨pre, post, hb, q2⟩, OB_chg hb hO q2⟩
theorem k_freeY {w : pW} {b : Nat} {S : St} {L M : List St} {K : St} (h : obk w b S L M K) {p q : Nat} (hp : p < 40) (hq : q < 40) (hs : S.has p ∧ S.has q ∧ S.bound p q) (h2 : S.ap (p * 40 + q) ≠ -1 ∧ S.ap (q * 40 + p) ≠ -1) : qC 91 [.ref b, .int (iI (p : Int)), .int (iI (q : Int))] w (fun r w' => r = some (.int (bI true)) ∧ ∃ R : St, (R.xs = S.xs ∧ R.ys = S.ys ∧ R.th = S.th ∧ ∀ x y : Nat, R.bound x y ↔ S.bound x y ∧ ¬ eU p q x y) ∧ S.rst R ∧ obk w' b R (pshL S L) M K ∧ chg b w w') := by
  obtain ⟨pre, post, hb, hO⟩ := h
  refine qc_mono (o_free hb hO hp hq) (fun r w' z => ?_)
  rcases z with ⟨-, z2, R, z3, z4, z5⟩ | ⟨z, -⟩
  · exact ⟨z2, R, z3, z4, ⟨pre, post, hb, z5⟩, OB_chg hb hO z5⟩
  · exact absurd ⟨hs, h2⟩ z
theorem k_freeN {w : pW} {b : Nat} {S : St} {L M : List St} {K : St} (h : obk w b S L M K) {x y : Int} (hx : ptN x) (hy : ptN y) (hl : ∀ p q : Nat, p < 40 → q < 40 → x = (p : Int) → y = (q : Int) → ¬ ((S.has p ∧ S.has q ∧ S.bound p q) ∧ (S.ap (p * 40 + q) ≠ -1 ∧ S.ap (q * 40 + p) ≠ -1))) : qC 91 [.ref b, .int (iI x), .int (iI y)] w (fun r w' => r = some (.int (bI false)) ∧ obk w' b S L M K ∧ chg b w w') := by
  obtain ⟨pre, post, hb, hO⟩ := h
  rcases hx with rfl | ⟨p, hp, rfl⟩
  · refine qx_of (o_freeA hb hO (z := -1) (y := y) ⟨by decide, by decide⟩ (Or.inl (by decide))) ?_
    exact ⟨rfl, ⟨pre, post, hb, hO⟩, chg_refl _ _⟩
  · rcases hy with rfl | ⟨q, hq, rfl⟩
    · refine qx_of (o_freeB hb hO hp (z := -1) ⟨by decide, by decide⟩ (Or.inl (by decide))) ?_
      exact ⟨rfl, ⟨pre, post, hb, hO⟩, chg_refl _ _⟩
    · refine qc_mono (o_free hb hO hp hq) (fun r w' z => ?_)
      rcases z with ⟨z, -⟩ | ⟨-, q1, q2⟩
      · exact absurd z (hl p q hp hq rfl rfl)
      · exact ⟨q1, ⟨pre, post, hb, q2⟩, OB_chg hb hO q2⟩
theorem k_heightY {w : pW} {b : Nat} {S : St} {L M : List St} {K : St} (h : obk w b S L M K) {p : Nat} {z : Int} (hp : p < 40) (sp : S.has p) (h1 : -9999 ≤ z) (h2 : z ≤ 9999) : qC 93 [.ref b, .int (iI (p : Int)), .int (iI z)] w (fun r w' => r = some (.int (bI true)) ∧ obk w' b (S.u_hs (uZ S.hs p z)) (pshL S L) M K ∧ chg b w w') := by
  obtain ⟨pre, post, hb, hO⟩ := h
  refine qc_mono (o_height hb hO hp ⟨by omega, by omega⟩) (fun r w' z => ?_)
  rcases z with ⟨-, z2, z5⟩ | ⟨z, -⟩
  · exact ⟨z2, ⟨pre, post, hb, z5⟩, OB_chg hb hO z5⟩
  · exact absurd ⟨sp, h1, h2⟩ z
theorem k_heightN {w : pW} {b : Nat} {S : St} {L M : List St} {K : St} (h : obk w b S L M K) {x z : Int} (hx : ptN x) (hz : sm z) (hl : ∀ p : Nat, p < 40 → x = (p : Int) → ¬ (S.has p ∧ -9999 ≤ z ∧ z ≤ 9999)) : qC 93 [.ref b, .int (iI x), .int (iI z)] w (fun r w' => r = some (.int (bI false)) ∧ obk w' b S L M K ∧ chg b w w') := by
  obtain ⟨pre, post, hb, hO⟩ := h
  rcases hx with rfl | ⟨p, hp, rfl⟩
  · refine qx_of (o_heightN hb hO (z := -1) (y := z) ⟨by decide, by decide⟩ (Or.inl (by decide))) ?_
    exact ⟨rfl, ⟨pre, post, hb, hO⟩, chg_refl _ _⟩
  · refine qc_mono (o_height hb hO hp hz) (fun r w' q => ?_)
    rcases q with ⟨q, -⟩ | ⟨-, q1, q2⟩
    · exact absurd q (hl p hp rfl)
    · exact ⟨q1, ⟨pre, post, hb, q2⟩, OB_chg hb hO q2⟩
theorem k_drawn {w : pW} {b : Nat} {S : St} {L M : List St} {K : St} (h : obk w b S L M K) {n : Nat} (hn0 : 1 ≤ n) (hn : n ≤ 20) {v : Int} (hv : 1 ≤ v) (hv2 : v ≤ 1000) : qC 92 [.ref b, .int (iI (n : Int)), .int (iI v)] w (fun r w' => ∃ (S' : St) (c : Nat), drawR v n S 0 S' c ∧ r = some (.int (iI (c : Int))) ∧ obk w' b S' (pshL S L) M K ∧ chg b w w') := by
  obtain ⟨pre, post, hb, hO⟩ := h
  refine qc_mono (o_drawn hb hO hn0 hn hv hv2) (fun r w' z => ?_)
  obtain ⟨S', c, z1, z2, z3⟩ := z
  exact ⟨S', c, z1, z2, ⟨pre, post, hb, z3⟩, OB_chg hb hO z3⟩
theorem k_smR {w : pW} {b : Nat} {S : St} {L M : List St} {K : St} (h : obk w b S L M K) : qC 96 [.ref b] w (fun r w' => ∃ (S' : St) (c : Nat), smR 36 4 S 0 S' c ∧ r = some (.int (iI (c : Int))) ∧ obk w' b S' (pshL S L) M K ∧ chg b w w') := by
  obtain ⟨pre, post, hb, hO⟩ := h
  refine qc_mono (o_smooth hb hO) (fun r w' z => ?_)
  obtain ⟨S', c, z1, z2, z3⟩ := z
  exact ⟨S', c, z1, z2, ⟨pre, post, hb, z3⟩, OB_chg hb hO z3⟩
theorem k_holeY {w : pW} {b : Nat} {S : St} {L M : List St} {K : St} (h : obk w b S L M K) {x y : Int} (hi : inSq x y) (hn : S.hn < 8) : qC 98 [.ref b, .int (iI x), .int (iI y)] w (fun r w' => r = some (.int (iI (S.hn + 1))) ∧ obk w' b (((S.u_hx (uZ S.hx S.hn.toNat x)).u_hy (uZ S.hy S.hn.toNat y)).u_hn (S.hn + 1)) (pshL S L) M K ∧ chg b w w') := by
  obtain ⟨pre, post, hb, hO⟩ := h
  refine qc_mono (o_hole hb hO ⟨by omega, by omega⟩ ⟨by omega, by omega⟩) (fun r w' z => ?_)
  rcases z with ⟨-, z2, z5⟩ | ⟨z, -⟩
  · exact ⟨z2, ⟨pre, post, hb, z5⟩, OB_chg hb hO z5⟩
  · exact absurd ⟨hi, hn⟩ z
theorem k_holeN {w : pW} {b : Nat} {S : St} {L M : List St} {K : St} (h : obk w b S L M K) {x y : Int} (hx : sm x) (hy : sm y) (hn : ¬ (inSq x y ∧ S.hn < 8)) : qC 98 [.ref b, .int (iI x), .int (iI y)] w (fun r w' => r = some (.int (iI (-1))) ∧ obk w' b S L M K ∧ chg b w w') := by
  obtain ⟨pre, post, hb, hO⟩ := h
  refine qc_mono (o_hole hb hO hx hy) (fun r w' z => ?_)
  rcases z with ⟨z, -⟩ | ⟨-, z2, z5⟩
  · exact absurd z hn
  · exact ⟨z2, ⟨pre, post, hb, z5⟩, OB_chg hb hO z5⟩
theorem k_fillY {w : pW} {b : Nat} {S : St} {L M : List St} {K : St} (h : obk w b S L M K) (hn : 0 < S.hn) : qC 99 [.ref b] w (fun r w' => r = some (.int (iI (S.hn - 1))) ∧ obk w' b (S.u_hn (S.hn - 1)) (pshL S L) M K ∧ chg b w w') := by
  obtain ⟨pre, post, hb, hO⟩ := h
  refine qc_mono (o_fill hb hO) (fun r w' z => ?_)
  rcases z with ⟨-, z2, z5⟩ | ⟨z, -⟩
  · exact ⟨z2, ⟨pre, post, hb, z5⟩, OB_chg hb hO z5⟩
  · exact absurd hn z
theorem k_fillN {w : pW} {b : Nat} {S : St} {L M : List St} {K : St} (h : obk w b S L M K) (hn : ¬ 0 < S.hn) : qC 99 [.ref b] w (fun r w' => r = some (.int (iI (-1))) ∧ obk w' b S L M K ∧ chg b w w') := by
  obtain ⟨pre, post, hb, hO⟩ := h
  refine qc_mono (o_fill hb hO) (fun r w' z => ?_)
  rcases z with ⟨z, -⟩ | ⟨-, z2, z5⟩
  · exact absurd z hn
  · exact ⟨z2, ⟨pre, post, hb, z5⟩, OB_chg hb hO z5⟩
theorem k_tellY {w : pW} {b : Nat} {S : St} {L M : List St} {K : St} (h : obk w b S L M K) {x : Int} (h1 : 0 ≤ x) (h2 : x < 30047) : qC 100 [.ref b, .int (iI x)] w (fun r w' => r = some (.int (bI true)) ∧ obk w' b (S.u_g x) L M K ∧ chg b w w') := by
  obtain ⟨pre, post, hb, hO⟩ := h
  refine qc_mono (o_tell hb hO ⟨by omega, by omega⟩) (fun r w' z => ?_)
  rcases z with ⟨-, z2, z5⟩ | ⟨z, -⟩
  · exact ⟨z2, ⟨pre, post, hb, z5⟩, OB_chg hb hO z5⟩
  · exact absurd ⟨h1, h2⟩ z
theorem k_tellN {w : pW} {b : Nat} {S : St} {L M : List St} {K : St} (h : obk w b S L M K) {x : Int} (hx : sm x) (h1 : ¬ (0 ≤ x ∧ x < 30047)) : qC 100 [.ref b, .int (iI x)] w (fun r w' => r = some (.int (bI false)) ∧ obk w' b S L M K ∧ chg b w w') := by
  obtain ⟨pre, post, hb, hO⟩ := h
  refine qc_mono (o_tell hb hO hx) (fun r w' z => ?_)
  rcases z with ⟨z, -⟩ | ⟨-, z2, z5⟩
  · exact absurd z h1
  · exact ⟨z2, ⟨pre, post, hb, z5⟩, OB_chg hb hO z5⟩
theorem k_undoN {w : pW} {b : Nat} {S : St} {M : List St} {K : St} (h : obk w b S [] M K) : qC 101 [.ref b] w (fun r w' => r = some (.int (iI (-1))) ∧ obk w' b S [] M K ∧ chg b w w') := by
  obtain ⟨pre, post, hb, hO⟩ := h
  refine qx_of (o_undoNo hb hO) ?_
  exact ⟨rfl, ⟨pre, post, hb, hO⟩, chg_refl _ _⟩
theorem k_undoY {w : pW} {b : Nat} {S J : St} {L M : List St} {K : St} (h : obk w b S (L ++ [J]) M K) : qC 101 [.ref b] w (fun r w' => r = some (.int (iI (L.length : Int))) ∧ ∃ R : St, J.alike R ∧ obk w' b R L M K ∧ chg b w w') := by
  obtain ⟨pre, post, hb, hO⟩ := h
  refine qc_mono (o_undo hb hO) (fun r w' z => ?_)
  obtain ⟨z1, R, z2, z3⟩ := z
  exact ⟨z1, R, z2, ⟨pre, post, hb, z3⟩, OB_chg hb hO z3⟩
theorem k_image {w : pW} {b : Nat} {S : St} {L M : List St} {K : St} (h : obk w b S L M K) : qC 103 [.ref b] w (fun r w' => r = some (.int (iI (bcnt S.th : Int))) ∧ obk w' b S L L S ∧ chg b w w') := by
  obtain ⟨pre, post, hb, hO⟩ := h
  refine qc_mono (o_image hb hO) (fun r w' z => ?_)
  exact ⟨z.1, ⟨pre, post, hb, z.2⟩, OB_chg hb hO z.2⟩
theorem k_back {w : pW} {b : Nat} {S : St} {L M : List St} {K : St} (h : obk w b S L M K) : qC 104 [.ref b] w (fun r w' => ∃ R : St, K.alike R ∧ r = some (.int (iI (bcnt R.th : Int))) ∧ obk w' b R M M K ∧ chg b w w') := by
  obtain ⟨pre, post, hb, hO⟩ := h
  refine qc_mono (o_back hb hO) (fun r w' z => ?_)
  obtain ⟨R, z1, z2, z3⟩ := z
  exact ⟨R, z1, z2, ⟨pre, post, hb, z3⟩, OB_chg hb hO z3⟩
theorem k_steps {w : pW} {b : Nat} {S : St} {L M : List St} {K : St} (h : obk w b S L M K) : pRun 102 [.ref b] w (some (.int (iI (L.length : Int)))) w := by
  obtain ⟨pre, post, hb, hO⟩ := h
  exact o_steps hb hO
theorem k_same {w : pW} {b : Nat} {S : St} {L M : List St} {K : St} (h : obk w b S L M K) {O Q : Nat → Prop} {a : Nat} {X : Sh} (hS : shAt w O Q a X) (hR : Rel S X) (hDO : ∀ i : Nat, inO b i → ¬ O i ∧ ¬ Q i) : qC 154 [.ref b, .ref a] w (fun r w' => r = some (.int (bI true)) ∧ obk w' b S L M K ∧ agr (inO b) w w' ∧ gro 757 3835 w w') := by
  obtain ⟨pre, post, hb, hO⟩ := h
  refine qc_mono (w_same hb hO hS hR (fun i h1 h2 => hDO i ⟨h1, h2⟩)) (fun r w' z => ?_)
  obtain ⟨z1, ⟨post', z2⟩, z3, z4⟩ := z
  exact ⟨z1, ⟨pre, post', hb, z2⟩, z3, z4⟩
/-- a sheet's own tells, when it takes -/
theorem w_tellsY {O Q : Nat → Prop} {a : Nat} {x y : Int} {X : Sh} {w : pW} (hi : inSq x y) (hI : X.In) (hS : shAt w O Q a X) (hQ : Q w.length) (hf : 0 ≤ X.free ∧ X.at x y < 0) : qC 130 [.ref a, .int (iI x), .int (iI y)] w (fun r w' => ∃ k : Nat, k < 40 ∧ X.free = (k : Int) ∧ r = some (.int (iI (k : Int))) ∧ shAt w' O Q a (X.lays k x y 0) ∧ (X.lays k x y 0).In ∧ agr O w w' ∧ gro 1 3 w w') := by
  refine qc_mono (w_tells hi hI hS hQ) (fun r w' z => ?_)
  rcases z with ⟨-, k, z⟩ | ⟨z, -⟩
  · exact ⟨k, z⟩
  · exact absurd hf z
