/-! THE LAW: same, whole. Rows laid by program (wip/p63/wk.py, hw.py, mk98zf.py). -/
theorem St.Ok.at_out {S : St} (h : S.Ok) {x y : Int} (hx : ¬ inSq x y) : S.atP x y = -1 := by
  rcases St.atF_ge S x y 40 0 with ⟨z, -⟩ | ⟨k, -, k1, -, -, k4, k5⟩
  · exact z
  · have b := h.sq (show k < 40 by omega)
    rw [k4, k5] at b
    exact absurd b hx
theorem w_same {w : pW} {pre post : pW} {b : Nat} (hb : pre.length = b) {S : St} {L M : List St} {K : St} (hO : OB pre post b S L M K w) {O Q : Nat → Prop} {a : Nat} {X : Sh} (hS : shAt w O Q a X) (hR : Rel S X) (hDO : ∀ i : Nat, b ≤ i → i < b + 57 → ¬ O i ∧ ¬ Q i) : qC 154 [.ref b, .ref a] w (fun r w' => r = some (.int (bI true)) ∧ (∃ post' : pW, OB pre post' b S L M K w') ∧ agr (fun i => b ≤ i ∧ i < b + 57) w w' ∧ gro 757 3835 w w') := by
  obtain ⟨pa, fa, ha, pf, gf, hf, ff, hS9⟩ := id hS
  refine l_same0 hb hO hS9 hR ?_
  have h1 := o_at hb hO (x := 1001) (y := 0) ⟨by decide, by decide⟩ ⟨by decide, by decide⟩
  rw [hO.1.at_out (by unfold inSq; omega)] at h1
  refine pe_go (pc := 283) rfl (s_aload_n rfl) ?_
  refine pe_go (pc := 284) rfl (s_sipush (z := 1001) rfl) ?_
  refine pe_go (pc := 287) rfl (s_iconst (z := 0) rfl) ?_
  refine pe_call rfl (s_invV rfl (OB.obj hb hO) rfl rfl) (h1) ?_
  refine pe_go (pc := 291) rfl (s_iconst (z := -1) rfl) ?_
  refine pe_go rfl (s_icmp_ne_f ⟨by decide, by decide⟩ ⟨by decide, by decide⟩ (by decide)) ?_
  refine pe_go (pc := 295) rfl (s_aload_n rfl) ?_
  refine pe_go (pc := 296) rfl (s_aload_n rfl) ?_
  refine pe_callE rfl (s_invS rfl rfl rfl) (w_mesh hb hO hS hR hDO) ?_
  rintro _ w1 ⟨rfl, hO1, hA1, hG1⟩
  refine pe_go rfl (s_ifeq_true rfl) ?_
  refine pe_go (pc := 303) rfl (s_iconst (z := 1) rfl) ?_
  refine pe_go (pc := 304) rfl s_goto ?_
  exact pe_ret rfl s_ret1 ⟨rfl, hO1, hA1, hG1⟩
