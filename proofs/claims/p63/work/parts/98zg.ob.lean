/-! OBJECTS BESIDE EACH OTHER: an object stands where all others change. By hand. -/
/-- an object at b, its history told -/
def obk (w : pW) (b : Nat) (S : St) (L M : List St) (K : St) : Prop := ∃ pre post : pW, pre.length = b ∧ OB pre post b S L M K w
/-- an object at b -/
def tb (w : pW) (b : Nat) (S : St) : Prop := ∃ (L M : List St) (K : St), obk w b S L M K
abbrev inO (b : Nat) : Nat → Prop := fun i => b ≤ i ∧ i < b + 57
def chg (b : Nat) (w w' : pW) : Prop := agr (inO b) w w' ∧ w'.length = w.length ∧ pwsz w' = pwsz w
theorem chg_refl (b : Nat) (w : pW) : chg b w w := ⟨agr_refl _ w, rfl, rfl⟩
theorem OB_chg {pre post : pW} {b : Nat} (hb : pre.length = b) {S S' : St} {L L' M M' : List St} {K K' : St} {w w' : pW} (h1 : OB pre post b S L M K w) (h2 : OB pre post b S' L' M' K' w') : chg b w w' := by
  obtain ⟨a1, a2, -⟩ := OB_frame hb h1 h2
  exact ⟨OB_agr hb h1 h2, a1, a2⟩
theorem obk_ok {w : pW} {b : Nat} {S : St} {L M : List St} {K : St} (h : obk w b S L M K) : S.Ok := by
  obtain ⟨pre, post, hb, hO⟩ := h
  exact hO.1
theorem tb_ok {w : pW} {b : Nat} {S : St} (h : tb w b S) : S.Ok := by
  obtain ⟨L, M, K, h⟩ := h
  exact obk_ok h
theorem obk_len {w : pW} {b : Nat} {S : St} {L M : List St} {K : St} (h : obk w b S L M K) : b + 57 ≤ w.length := by
  obtain ⟨pre, post, hb, hO⟩ := h
  exact OB_len hb hO
theorem tb_len {w : pW} {b : Nat} {S : St} (h : tb w b S) : b + 57 ≤ w.length := by
  obtain ⟨L, M, K, h⟩ := h
  exact obk_len h
theorem obk_agr {P : Nat → Prop} {w w' : pW} {b : Nat} {S : St} {L M : List St} {K : St} (h : obk w b S L M K) (k : agr P w w') (hP : ∀ i : Nat, P i → ¬ inO b i) : obk w' b S L M K := by
  have hlen := obk_len h
  obtain ⟨pre, post, hb, hS, hLo, hLl, hMo, hMl, pn, pb, rn, rb, cl, kp, kr, ew⟩ := h
  obtain ⟨mid, hmid⟩ : ∃ mid : pW, mid = oC (b + 1) ++ (mB (b + 1) S ++ oP (b + 1) pn pb (L.length : Int) rn rb (M.length : Int) cl) := ⟨_, rfl⟩
  have hml : mid.length = 57 := by rw [hmid]; rfl
  have e1 : w = pre ++ (mid ++ post) := by
    rw [ew, hmid]
    simp only [List.append_assoc]
  have hl : w.length ≤ w'.length := k.1
  refine ⟨w'.take b, w'.drop (b + 57), by rw [List.length_take]; omega, hS, hLo, hLl, hMo, hMl, pn, pb, rn, rb, cl, kp, kr, ?_⟩
  have e2 : w' = w'.take b ++ (mid ++ w'.drop (b + 57)) := by
    apply List.ext_getElem?
    intro i
    have ht : (w'.take b).length = b := by rw [List.length_take]; omega
    rcases Nat.lt_or_ge i b with c | c
    · rw [List.getElem?_append_left (by omega), List.getElem?_take_of_lt c]
    · rw [List.getElem?_append_right (by omega), ht]
      rcases Nat.lt_or_ge i (b + 57) with d | d
      · rw [List.getElem?_append_left (by omega)]
        have h1 := k.2 i (by omega) (fun z => hP i z ⟨c, d⟩)
        rw [h1, e1, List.getElem?_append_right (by omega), hb, List.getElem?_append_left (by omega)]
      · rw [List.getElem?_append_right (by omega), List.getElem?_drop, hml]
        congr 1
        omega
  rw [hmid] at e2
  rw [show ∀ p q : pW, (p ++ oC (b + 1)) ++ (mB (b + 1) S ++ (oP (b + 1) pn pb (L.length : Int) rn rb (M.length : Int) cl ++ q)) = p ++ ((oC (b + 1) ++ (mB (b + 1) S ++ oP (b + 1) pn pb (L.length : Int) rn rb (M.length : Int) cl)) ++ q) from fun p q => by simp only [List.append_assoc]]
  exact e2
theorem tb_agr {P : Nat → Prop} {w w' : pW} {b : Nat} {S : St} (h : tb w b S) (k : agr P w w') (hP : ∀ i : Nat, P i → ¬ inO b i) : tb w' b S := by
  obtain ⟨L, M, K, h⟩ := h
  exact ⟨L, M, K, obk_agr h k hP⟩
theorem tb_obj {w : pW} {b : Nat} {S : St} (h : tb w b S) : ∃ fs : List Value, w[b]? = some (.inr (8, fs)) := by
  obtain ⟨L, M, K, pre, post, hb, hO⟩ := h
  exact ⟨_, OB.obj hb hO⟩
theorem shAt_lt {w : pW} {O Q : Nat → Prop} {a : Nat} {X : Sh} (h : shAt w O Q a X) : shAt w (fun i => O i ∧ i < w.length) (fun i => Q i ∧ i < w.length) a X := by
  obtain ⟨pa, fa, ha, pf, gf, hf, ff, h⟩ := h
  exact ⟨pa, fa, ha, pf, gf, hf, ff, shP_lt h⟩
theorem shAt_pfx {w0 w : pW} (k : pfx w0 w) {O Q : Nat → Prop} {a : Nat} {X : Sh} (h : shAt w0 O Q a X) : shAt w O Q a X := by
  obtain ⟨pa, fa, ha, pf, gf, hf, ff, h⟩ := h
  exact ⟨pa, fa, ha, pf, gf, hf, ff, shP_pfx k h⟩
theorem pfx_agr {P : Nat → Prop} {w0 w w' : pW} (h : pfx w0 w) (k : agr P w w') (hP : ∀ i : Nat, P i → w0.length ≤ i) : pfx w0 w' := by
  obtain ⟨l, rfl⟩ := h
  have hl := k.1
  rw [List.length_append] at hl
  refine ⟨w'.drop w0.length, ?_⟩
  apply List.ext_getElem?
  intro i
  rcases Nat.lt_or_ge i w0.length with c | c
  · rw [List.getElem?_append_left c, k.2 i (by rw [List.length_append]; omega) (fun z => by have := hP i z; omega), List.getElem?_append_left c]
  · rw [List.getElem?_append_right c, List.getElem?_drop]
    congr 1
    omega
theorem pfx_gro {w0 w : pW} {P : Nat → Prop} (h : pfx w0 w) : agr P w0 w := by
  obtain ⟨l, rfl⟩ := h
  exact agr_app
theorem chg_len {b : Nat} {w w' : pW} (h : chg b w w') : w'.length = w.length := h.2.1
/-! calls on such an object -/
theorem t_point {w : pW} {b : Nat} {S : St} (h : tb w b S) {x y : Int} (hx : sm x) (hy : sm y) (ht : S.takes x y) : qC 87 [.ref b, .int (iI x), .int (iI y)] w (fun r w' => ∃ (p : Nat) (R : St), S.lu = (p : Int) ∧ r = some (.int (iI (p : Int))) ∧ S.laid R p x y ∧ (S.u_hs (uZ S.hs p 0)).rst R ∧ tb w' b R ∧ chg b w w') := by
  obtain ⟨L, M, K, pre, post, hb, hO⟩ := h
  refine qc_mono (o_point hb hO hx hy) (fun r w' z => ?_)
  rcases z with ⟨-, p, R, z1, z2, z3, z4, z5⟩ | ⟨z, -⟩
  · exact ⟨p, R, z1, z2, z3, z4, ⟨_, _, _, pre, post, hb, z5⟩, OB_chg hb hO z5⟩
  · exact absurd ht z
theorem t_drop {w : pW} {b : Nat} {S : St} (h : tb w b S) {p : Nat} (hp : p < 40) (sp : S.has p) (hf : S.fx p = lI 0) : qC 88 [.ref b, .int (iI (p : Int))] w (fun r w' => r = some (.int (bI true)) ∧ ∃ R : St, (R.xs = S.xs ∧ R.ys = S.ys ∧ R.th = bClr S.th p ∧ R.fx = S.fx) ∧ S.rst R ∧ tb w' b R ∧ chg b w w') := by
  obtain ⟨L, M, K, pre, post, hb, hO⟩ := h
  refine qc_mono (o_drop hb hO hp) (fun r w' z => ?_)
  rcases z with ⟨-, z2, R, z3, z4, z5⟩ | ⟨z, -⟩
  · exact ⟨z2, R, z3, z4, ⟨_, _, _, pre, post, hb, z5⟩, OB_chg hb hO z5⟩
  · exact absurd ⟨sp, hf⟩ z
theorem t_fix {w : pW} {b : Nat} {S : St} (h : tb w b S) {p q : Nat} (hp : p < 40) (hq : q < 40) {E : Nat} (hE : S.ec = (E : Int)) (hE2 : E ≤ 113) (hs : S.sight p q E) (hn : ¬ S.bound p q) : qC 90 [.ref b, .int (iI (p : Int)), .int (iI (q : Int))] w (fun r w' => r = some (.int (bI true)) ∧ ∃ R : St, (R.xs = S.xs ∧ R.ys = S.ys ∧ R.th = S.th ∧ ∀ x y : Nat, R.bound x y ↔ S.bound x y ∨ eU p q x y) ∧ S.rst R ∧ tb w' b R ∧ chg b w w') := by
  obtain ⟨L, M, K, pre, post, hb, hO⟩ := h
  refine qc_mono (o_fix hb hO hp hq hE hE2) (fun r w' z => ?_)
  rcases z with ⟨-, z2, R, z3, z4, z5⟩ | ⟨z, -⟩
  · exact ⟨z2, R, z3, z4, ⟨_, _, _, pre, post, hb, z5⟩, OB_chg hb hO z5⟩
  · exact absurd ⟨hs, hn⟩ z
theorem t_height {w : pW} {b : Nat} {S : St} (h : tb w b S) {p : Nat} {z : Int} (hp : p < 40) (sp : S.has p) (h1 : -9999 ≤ z) (h2 : z ≤ 9999) : qC 93 [.ref b, .int (iI (p : Int)), .int (iI z)] w (fun r w' => r = some (.int (bI true)) ∧ tb w' b (S.u_hs (uZ S.hs p z)) ∧ chg b w w') := by
  obtain ⟨L, M, K, pre, post, hb, hO⟩ := h
  refine qc_mono (o_height hb hO hp ⟨by omega, by omega⟩) (fun r w' z => ?_)
  rcases z with ⟨-, z2, z5⟩ | ⟨z, -⟩
  · exact ⟨z2, ⟨_, _, _, pre, post, hb, z5⟩, OB_chg hb hO z5⟩
  · exact absurd ⟨sp, h1, h2⟩ z
theorem t_hole {w : pW} {b : Nat} {S : St} (h : tb w b S) {x y : Int} (hi : inSq x y) (hn : S.hn < 8) : qC 98 [.ref b, .int (iI x), .int (iI y)] w (fun r w' => r = some (.int (iI (S.hn + 1))) ∧ tb w' b (((S.u_hx (uZ S.hx S.hn.toNat x)).u_hy (uZ S.hy S.hn.toNat y)).u_hn (S.hn + 1)) ∧ chg b w w') := by
  obtain ⟨L, M, K, pre, post, hb, hO⟩ := h
  refine qc_mono (o_hole hb hO ⟨by omega, by omega⟩ ⟨by omega, by omega⟩) (fun r w' z => ?_)
  rcases z with ⟨-, z2, z5⟩ | ⟨z, -⟩
  · exact ⟨z2, ⟨_, _, _, pre, post, hb, z5⟩, OB_chg hb hO z5⟩
  · exact absurd ⟨hi, hn⟩ z
theorem t_tell {w : pW} {b : Nat} {S : St} (h : tb w b S) {x : Int} (h1 : 0 ≤ x) (h2 : x < 30047) : qC 100 [.ref b, .int (iI x)] w (fun r w' => r = some (.int (bI true)) ∧ tb w' b (S.u_g x) ∧ chg b w w') := by
  obtain ⟨L, M, K, pre, post, hb, hO⟩ := h
  refine qc_mono (o_tell hb hO ⟨by omega, by omega⟩) (fun r w' z => ?_)
  rcases z with ⟨-, z2, z5⟩ | ⟨z, -⟩
  · exact ⟨z2, ⟨_, _, _, pre, post, hb, z5⟩, OB_chg hb hO z5⟩
  · exact absurd ⟨h1, h2⟩ z
/-! rows of booleans -/
def rowB (w : pW) (r n : Nat) (f : Nat → Int) : Prop := w[r]? = some (.inl (2, n, .inl (fun j => iI (f j))))
theorem s_zaldI {pc : Nat} {lv : pLv} {st : List Value} {w : pW} {a n k : Nat} {f : Nat → Int} {z v : Int} (hw : w[a]? = some (.inl (2, n, .inl (fun j => iI (f j))))) (hz : z = (k : Int)) (hk : k < n) (hn : n ≤ 2147483648) (hv : f k = v) : pS1 .baload pc [] lv (.int (iI z) :: .ref a :: st) w = some (.inl (pc + 1, lv, .int (iI v) :: st, w)) := by
  subst hv
  have h := ps_ald (pc := pc + 1) (lv := lv) (st := st) (kd := 2) hw (iI_in hz hk hn)
  rw [iI_idx hz (by omega)] at h
  exact h
theorem nar_01 {v : Int} (h : v = 0 ∨ v = 1) : vp_nar .boolean (iI v) = iI v := by
  rcases h with rfl | rfl <;> rfl
theorem s_zast {pc : Nat} {lv : pLv} {st : List Value} {w : pW} {a n k : Nat} {f : Nat → Int} {z v : Int} {w' : pW} (hw : w[a]? = some (.inl (2, n, .inl (fun j => iI (f j))))) (hz : z = (k : Int)) (hk : k < n) (hn : n ≤ 2147483648) (hv : v = 0 ∨ v = 1) (hs : w.set a (.inl (2, n, .inl (fun j => iI (uZ f k v j)))) = w') : pS1 .bastore pc [] lv (.int (iI v) :: .int (iI z) :: .ref a :: st) w = some (.inl (pc + 1, lv, st, w')) := by
  subst hs
  show pAStZ (pc + 1) lv (.int (iI v) :: .int (iI z) :: .ref a :: st) w = _
  unfold pAStZ pGo1
  simp only [hw, iI_in hz hk hn, Nat.beq_refl, Bool.and_self, cond_true, nar_01 hv, iI_idx hz (show k < 2147483648 by omega), uZ_upd]
theorem s_newB {pc n m : Nat} {lv : pLv} {st : List Value} {w : pW} {z : Int} {t : ArrayType} (hm : w.length = m) (hz : z = (n : Int)) (hn : n ≤ 60000000) : pS1 (.newarray t) pc [2] lv (.int (iI z) :: st) w = some (.inl (pc + 2, lv, .ref m :: st, w ++ [.inl (2, n, .inl (fun j => iI ((fun _ => (0 : Int)) j)))])) := by
  show pNewA (pc + 2) [2] lv (.int (iI z) :: st) w = _
  unfold pNewA
  simp only [iI_nn hz (by omega), iI_idx hz (by omega), Nat.ble_eq_true_of_le hn]
  rw [hm]
  rfl
