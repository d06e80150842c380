/-! CUT: the class and the reference count alike. By hand and by program (wip/tools/lay2.py, mk97c.py). -/
def oppB (u v : Int32) : Bool := (!(decide (0 ≤ u)) && decide (0 < v)) || (!(decide (u ≤ 0)) && !(decide (0 ≤ v)))
def trnC (ax ay bx by' cx cy : Int32) : Int32 := (bx - ax) * (cy - ay) - (by' - ay) * (cx - ax)
def cutC (xs ys : Nat → Int32) (a b : Nat) (x y tx ty : Int32) : Bool := oppB (sdF xs ys a b x y) (sdF xs ys a b tx ty) && oppB (trnC x y tx ty (xs a) (ys a)) (trnC x y tx ty (xs b) (ys b))
theorem m_opp {xs : Nat → Int32} {ys : Nat → Int32} {hs : Nat → Int32} {fx : Nat → Int64} {hx : Nat → Int32} {hy : Nat → Int32} {th : Int64} {hn : Int32} {g : Int32} {ap : Nat → Int32} {ow : Nat → Int32} {co : Nat → Int32} {en : Nat → Int32} {ne : Nat → Int64} {rd : Nat → Int32} {tn : Int32} {ec : Int32} {li : Nat → Int64} {wa : Nat → Int64} {qu : Nat → Int32} {qn : Int32} {Q : pW} {u v : Int32} : qC 184 [.int u, .int v] (cM xs ys hs fx hx hy th hn g ap ow co en ne rd tn ec li wa qu qn Q) (fun r w1 => w1 = (cM xs ys hs fx hx hy th hn g ap ow co en ne rd tn ec li wa qu qn Q) ∧ r = some (.int (bI (oppB u v)))) := by
  refine pc_run rfl ?_
  refine pe_go rfl (s_iload_n rfl) ?_
  by_cases d1 : 0 ≤ u
  · skip
    refine pe_go rfl (s_if_ge_t d1) ?_
    refine pe_go rfl (s_iload_n rfl) ?_
    by_cases d2 : u ≤ 0
    · skip
      refine pe_go rfl (s_if_le_t d2) ?_
      refine pe_go rfl s_iconst ?_
      exact pe_ret rfl s_ret0 ⟨rfl, by unfold oppB bI; simp only [decide_eq_true d1, decide_eq_true d2]; rfl⟩
    · skip
      refine pe_go rfl (s_if_le_f d2) ?_
      refine pe_go rfl (s_iload_n rfl) ?_
      by_cases d3 : 0 ≤ v
      · skip
        refine pe_go rfl (s_if_ge_t d3) ?_
        refine pe_go rfl s_iconst ?_
        exact pe_ret rfl s_ret0 ⟨rfl, by unfold oppB bI; simp only [decide_eq_true d1, decide_eq_false d2, decide_eq_true d3]; rfl⟩
      · skip
        refine pe_go rfl (s_if_ge_f d3) ?_
        refine pe_go rfl s_iconst ?_
        refine pe_go rfl s_goto ?_
        exact pe_ret rfl s_ret1 ⟨rfl, by unfold oppB bI; simp only [decide_eq_true d1, decide_eq_false d2, decide_eq_false d3]; rfl⟩
  · skip
    refine pe_go rfl (s_if_ge_f d1) ?_
    refine pe_go rfl (s_iload_n rfl) ?_
    by_cases d4 : 0 < v
    · skip
      refine pe_go rfl (s_if_gt_t d4) ?_
      refine pe_go rfl s_iconst ?_
      refine pe_go rfl s_goto ?_
      exact pe_ret rfl s_ret1 ⟨rfl, by unfold oppB bI; simp only [decide_eq_false d1, decide_eq_true d4]; rfl⟩
    · skip
      refine pe_go rfl (s_if_gt_f d4) ?_
      refine pe_go rfl (s_iload_n rfl) ?_
      by_cases d5 : u ≤ 0
      · skip
        refine pe_go rfl (s_if_le_t d5) ?_
        refine pe_go rfl s_iconst ?_
        exact pe_ret rfl s_ret0 ⟨rfl, by unfold oppB bI; simp only [decide_eq_false d1, decide_eq_false d4, decide_eq_true d5]; rfl⟩
      · skip
        refine pe_go rfl (s_if_le_f d5) ?_
        refine pe_go rfl (s_iload_n rfl) ?_
        by_cases d6 : 0 ≤ v
        · skip
          refine pe_go rfl (s_if_ge_t d6) ?_
          refine pe_go rfl s_iconst ?_
          exact pe_ret rfl s_ret0 ⟨rfl, by unfold oppB bI; simp only [decide_eq_false d1, decide_eq_false d4, decide_eq_false d5, decide_eq_true d6]; rfl⟩
        · skip
          refine pe_go rfl (s_if_ge_f d6) ?_
          refine pe_go rfl s_iconst ?_
          refine pe_go rfl s_goto ?_
          exact pe_ret rfl s_ret1 ⟨rfl, by unfold oppB bI; simp only [decide_eq_false d1, decide_eq_false d4, decide_eq_false d5, decide_eq_false d6]; rfl⟩
theorem m_turn {xs : Nat → Int32} {ys : Nat → Int32} {hs : Nat → Int32} {fx : Nat → Int64} {hx : Nat → Int32} {hy : Nat → Int32} {th : Int64} {hn : Int32} {g : Int32} {ap : Nat → Int32} {ow : Nat → Int32} {co : Nat → Int32} {en : Nat → Int32} {ne : Nat → Int64} {rd : Nat → Int32} {tn : Int32} {ec : Int32} {li : Nat → Int64} {wa : Nat → Int64} {qu : Nat → Int32} {qn : Int32} {Q : pW} {ax ay bx by' cx cy : Int32} : qC 183 [.int ax, .int ay, .int bx, .int (by'), .int cx, .int cy] (cM xs ys hs fx hx hy th hn g ap ow co en ne rd tn ec li wa qu qn Q) (fun r w1 => w1 = (cM xs ys hs fx hx hy th hn g ap ow co en ne rd tn ec li wa qu qn Q) ∧ r = some (.int (trnC ax ay bx by' cx cy))) := by
  refine pc_run rfl ?_
  refine pe_go rfl (s_iload_n rfl) ?_
  refine pe_go rfl (s_iload_n rfl) ?_
  refine pe_go rfl s_isub ?_
  refine pe_go rfl (s_iload rfl) ?_
  refine pe_go rfl (s_iload_n rfl) ?_
  refine pe_go rfl s_isub ?_
  refine pe_go rfl s_imul ?_
  refine pe_go rfl (s_iload_n rfl) ?_
  refine pe_go rfl (s_iload_n rfl) ?_
  refine pe_go rfl s_isub ?_
  refine pe_go rfl (s_iload rfl) ?_
  refine pe_go rfl (s_iload_n rfl) ?_
  refine pe_go rfl s_isub ?_
  refine pe_go rfl s_imul ?_
  refine pe_go rfl s_isub ?_
  exact pe_ret rfl s_retI ⟨rfl, rfl⟩
theorem s_retB {pc : Nat} {lv : pLv} {w : pW} {b : Bool} : pS1 .ireturn pc [1] lv [.int (bI b)] w = some (.inr (.inr (some (.int (bI b))))) := by
  cases b
  · exact s_ret0
  · exact s_ret1
theorem m_isCut {xs : Nat → Int32} {ys : Nat → Int32} {hs : Nat → Int32} {fx : Nat → Int64} {hx : Nat → Int32} {hy : Nat → Int32} {th : Int64} {hn : Int32} {g : Int32} {ap : Nat → Int32} {ow : Nat → Int32} {co : Nat → Int32} {en : Nat → Int32} {ne : Nat → Int64} {rd : Nat → Int32} {tn : Int32} {ec : Int32} {li : Nat → Int64} {wa : Nat → Int64} {qu : Nat → Int32} {qn : Int32} {Q : pW} {a b : Nat} (ha : a < 40) (hb : b < 40) {x y tx ty : Int32} : qC 100 [.ref 2, .int (nI a), .int (nI b), .int x, .int y, .int tx, .int ty] (cM xs ys hs fx hx hy th hn g ap ow co en ne rd tn ec li wa qu qn Q) (fun r w1 => w1 = (cM xs ys hs fx hx hy th hn g ap ow co en ne rd tn ec li wa qu qn Q) ∧ r = some (.int (bI (cutC xs ys a b x y tx ty)))) := by
  refine pc_run rfl ?_
  refine pe_go rfl (s_aload_n rfl) ?_
  refine pe_go rfl (s_iload_n rfl) ?_
  refine pe_go rfl (s_iload_n rfl) ?_
  refine pe_go rfl (s_iload_n rfl) ?_
  refine pe_go rfl (s_iload rfl) ?_
  refine pe_call rfl (s_invV rfl rfl rfl rfl) (c_side ha hb) ?_
  refine pe_go rfl (s_aload_n rfl) ?_
  refine pe_go rfl (s_iload_n rfl) ?_
  refine pe_go rfl (s_iload_n rfl) ?_
  refine pe_go rfl (s_iload rfl) ?_
  refine pe_go rfl (s_iload rfl) ?_
  refine pe_call rfl (s_invV rfl rfl rfl rfl) (c_side ha hb) ?_
  refine pe_callE rfl (s_invN rfl rfl rfl) (m_opp) ?_
  rintro _ _ ⟨rfl, rfl⟩
  cases b1 : oppB (sdF xs ys a b x y) (sdF xs ys a b tx ty)
  · skip
    refine pe_go rfl (s_if_ne_f (by decide)) ?_
    refine pe_go rfl s_iconst ?_
    exact pe_ret rfl s_ret0 ⟨rfl, by unfold cutC; rw [b1]; rfl⟩
  · skip
    refine pe_go rfl (s_if_ne_t (by decide)) ?_
    refine pe_go rfl (s_iload_n rfl) ?_
    refine pe_go rfl (s_iload rfl) ?_
    refine pe_go rfl (s_iload rfl) ?_
    refine pe_go rfl (s_iload rfl) ?_
    refine pe_go rfl (s_aload_n rfl) ?_
    refine pe_go rfl (s_getf rfl rfl) ?_
    refine pe_go rfl (s_iload_n rfl) ?_
    refine pe_go rfl (s_ialdN (v := xs (a)) rfl (by omega) (by decide) rfl rfl) ?_
    refine pe_go rfl (s_aload_n rfl) ?_
    refine pe_go rfl (s_getf rfl rfl) ?_
    refine pe_go rfl (s_iload_n rfl) ?_
    refine pe_go rfl (s_ialdN (v := ys (a)) rfl (by omega) (by decide) rfl rfl) ?_
    refine pe_callE rfl (s_invN rfl rfl rfl) (m_turn) ?_
    rintro _ _ ⟨rfl, rfl⟩
    refine pe_go rfl (s_iload_n rfl) ?_
    refine pe_go rfl (s_iload rfl) ?_
    refine pe_go rfl (s_iload rfl) ?_
    refine pe_go rfl (s_iload rfl) ?_
    refine pe_go rfl (s_aload_n rfl) ?_
    refine pe_go rfl (s_getf rfl rfl) ?_
    refine pe_go rfl (s_iload_n rfl) ?_
    refine pe_go rfl (s_ialdN (v := xs (b)) rfl (by omega) (by decide) rfl rfl) ?_
    refine pe_go rfl (s_aload_n rfl) ?_
    refine pe_go rfl (s_getf rfl rfl) ?_
    refine pe_go rfl (s_iload_n rfl) ?_
    refine pe_go rfl (s_ialdN (v := ys (b)) rfl (by omega) (by decide) rfl rfl) ?_
    refine pe_callE rfl (s_invN rfl rfl rfl) (m_turn) ?_
    rintro _ _ ⟨rfl, rfl⟩
    refine pe_callE rfl (s_invN rfl rfl rfl) (m_opp) ?_
    rintro _ _ ⟨rfl, rfl⟩
    exact pe_ret rfl s_retB ⟨rfl, by unfold cutC; rw [b1, Bool.true_and]⟩
def sumB (l : List Bool) : Nat := l.foldr (fun b n => bif b then n + 1 else n) 0
theorem sumB_t {l : List Bool} {b : Bool} (h : b = true) : sumB (b :: l) = sumB l + 1 := by
  subst h
  rfl
theorem sumB_f {l : List Bool} {b : Bool} (h : b = false) : sumB (b :: l) = sumB l := by
  subst h
  rfl
theorem l_cut5 {hs : Nat → Int32} {fx : Nat → Int64} {hx : Nat → Int32} {hy : Nat → Int32} {th : Int64} {hn : Int32} {g : Int32} {ap : Nat → Int32} {ow : Nat → Int32} {co : Nat → Int32} {ne : Nat → Int64} {rd : Nat → Int32} {tn : Int32} {li : Nat → Int64} {wa : Nat → Int64} {qu : Nat → Int32} {qn : Int32} {Q : pW} {c : Nat} (hcc : c ≤ 5) {x y tx ty : Int32} : qE 48 (6, [(6, .int (nI 5)), (5, .int (nI c)), (0, .ref 1), (1, .int x), (2, .int y), (3, .int tx), (4, .int ty)], [], (cM sXs sYs hs fx hx hy th hn g ap ow co sEn ne rd tn (nI 5) li wa qu qn Q)) (fun r w1 => w1 = (cM sXs sYs hs fx hx hy th hn g ap ow co sEn ne rd tn (nI 5) li wa qu qn Q) ∧ r = some (.int (nI (c + sumB [])))) := by
  refine pe_go rfl (s_iload rfl) ?_
  refine pe_go rfl (s_aload_n rfl) ?_
  refine pe_go rfl (s_getf rfl rfl) ?_
  refine pe_go rfl (s_icmp_ge_t (Int32.le_refl _)) ?_
  refine pe_go rfl (s_iload rfl) ?_
  exact pe_ret rfl s_retI ⟨rfl, rfl⟩
theorem l_cut4 {hs : Nat → Int32} {fx : Nat → Int64} {hx : Nat → Int32} {hy : Nat → Int32} {th : Int64} {hn : Int32} {g : Int32} {ap : Nat → Int32} {ow : Nat → Int32} {co : Nat → Int32} {ne : Nat → Int64} {rd : Nat → Int32} {tn : Int32} {li : Nat → Int64} {wa : Nat → Int64} {qu : Nat → Int32} {qn : Int32} {Q : pW} {c : Nat} (hcc : c ≤ 4) {x y tx ty : Int32} : qE 48 (6, [(6, .int (nI 4)), (5, .int (nI c)), (0, .ref 1), (1, .int x), (2, .int y), (3, .int tx), (4, .int ty)], [], (cM sXs sYs hs fx hx hy th hn g ap ow co sEn ne rd tn (nI 5) li wa qu qn Q)) (fun r w1 => w1 = (cM sXs sYs hs fx hx hy th hn g ap ow co sEn ne rd tn (nI 5) li wa qu qn Q) ∧ r = some (.int (nI (c + sumB [cutC sXs sYs 2 3 x y tx ty])))) := by
  refine pe_go rfl (s_iload rfl) ?_
  refine pe_go rfl (s_aload_n rfl) ?_
  refine pe_go rfl (s_getf rfl rfl) ?_
  refine pe_go rfl (s_icmp_ge_f (fun e => absurd ((nI_leI (by omega) (by omega)).mp e) (by omega))) ?_
  refine pe_go rfl (s_aload_n rfl) ?_
  refine pe_go rfl (s_getf rfl rfl) ?_
  refine pe_go rfl (s_aload_n rfl) ?_
  refine pe_go rfl (s_getf rfl rfl) ?_
  refine pe_go rfl s_iconst ?_
  refine pe_go rfl (s_iload rfl) ?_
  refine pe_go rfl (s_imulN (c := 8) rfl) ?_
  refine pe_go rfl (s_ialdN (v := nI 2) rfl (by decide) (by decide) rfl (by decide)) ?_
  refine pe_go rfl (s_aload_n rfl) ?_
  refine pe_go rfl (s_getf rfl rfl) ?_
  refine pe_go rfl s_iconst ?_
  refine pe_go rfl (s_iload rfl) ?_
  refine pe_go rfl (s_imulN (c := 8) rfl) ?_
  refine pe_go rfl s_iconst ?_
  refine pe_go rfl (s_iaddN (c := 9) rfl) ?_
  refine pe_go rfl (s_ialdN (v := nI 3) rfl (by decide) (by decide) rfl (by decide)) ?_
  refine pe_go rfl (s_iload_n rfl) ?_
  refine pe_go rfl (s_iload_n rfl) ?_
  refine pe_go rfl (s_iload_n rfl) ?_
  refine pe_go rfl (s_iload rfl) ?_
  refine pe_callE rfl (s_invV rfl rfl rfl rfl) (m_isCut (by decide) (by decide)) ?_
  rintro _ _ ⟨rfl, rfl⟩
  cases b1 : cutC sXs sYs 2 3 x y tx ty
  · skip
    refine pe_go rfl (s_if_eq_t (by decide)) ?_
    refine pe_go rfl (s_iincN (y := nI 5) rfl (nI_add _ _) (lv' := [(6, .int (nI 5)), (5, .int (nI c)), (0, .ref 1), (1, .int x), (2, .int y), (3, .int tx), (4, .int ty)]) rfl) ?_
    refine pe_go rfl s_goto ?_
    refine pe_less (lv := [(6, .int (nI 5)), (5, .int (nI c)), (0, .ref 1), (1, .int x), (2, .int y), (3, .int tx), (4, .int ty)]) (lvLe_of rfl rfl (by repeat' (first | exact (fun _ h => absurd h List.not_mem_nil) | refine List.forall_mem_cons.mpr ⟨rfl, ?_⟩))) ?_
    exact pe_mono (fun r w1 h => ⟨h.1, by rw [h.2, sumB_f (b := false) rfl]⟩) (l_cut5 (c := c) (by omega))
  · skip
    refine pe_go rfl (s_if_eq_f (by decide)) ?_
    refine pe_go rfl (s_iincN (y := nI (c + 1)) rfl (nI_add _ _) (lv' := [(5, .int (nI (c + 1))), (6, .int (nI 4)), (0, .ref 1), (1, .int x), (2, .int y), (3, .int tx), (4, .int ty)]) rfl) ?_
    refine pe_go rfl (s_iincN (y := nI 5) rfl (nI_add _ _) (lv' := [(6, .int (nI 5)), (5, .int (nI (c + 1))), (0, .ref 1), (1, .int x), (2, .int y), (3, .int tx), (4, .int ty)]) rfl) ?_
    refine pe_go rfl s_goto ?_
    refine pe_less (lv := [(6, .int (nI 5)), (5, .int (nI (c + 1))), (0, .ref 1), (1, .int x), (2, .int y), (3, .int tx), (4, .int ty)]) (lvLe_of rfl rfl (by repeat' (first | exact (fun _ h => absurd h List.not_mem_nil) | refine List.forall_mem_cons.mpr ⟨rfl, ?_⟩))) ?_
    exact pe_mono (fun r w1 h => ⟨h.1, by rw [h.2, sumB_t (b := true) rfl]; exact congrArg (fun k => some (Value.int (nI k))) (by omega)⟩) (l_cut5 (c := c + 1) (by omega))
theorem l_cut3 {hs : Nat → Int32} {fx : Nat → Int64} {hx : Nat → Int32} {hy : Nat → Int32} {th : Int64} {hn : Int32} {g : Int32} {ap : Nat → Int32} {ow : Nat → Int32} {co : Nat → Int32} {ne : Nat → Int64} {rd : Nat → Int32} {tn : Int32} {li : Nat → Int64} {wa : Nat → Int64} {qu : Nat → Int32} {qn : Int32} {Q : pW} {c : Nat} (hcc : c ≤ 3) {x y tx ty : Int32} : qE 48 (6, [(6, .int (nI 3)), (5, .int (nI c)), (0, .ref 1), (1, .int x), (2, .int y), (3, .int tx), (4, .int ty)], [], (cM sXs sYs hs fx hx hy th hn g ap ow co sEn ne rd tn (nI 5) li wa qu qn Q)) (fun r w1 => w1 = (cM sXs sYs hs fx hx hy th hn g ap ow co sEn ne rd tn (nI 5) li wa qu qn Q) ∧ r = some (.int (nI (c + sumB [cutC sXs sYs 1 2 x y tx ty, cutC sXs sYs 2 3 x y tx ty])))) := by
  refine pe_go rfl (s_iload rfl) ?_
  refine pe_go rfl (s_aload_n rfl) ?_
  refine pe_go rfl (s_getf rfl rfl) ?_
  refine pe_go rfl (s_icmp_ge_f (fun e => absurd ((nI_leI (by omega) (by omega)).mp e) (by omega))) ?_
  refine pe_go rfl (s_aload_n rfl) ?_
  refine pe_go rfl (s_getf rfl rfl) ?_
  refine pe_go rfl (s_aload_n rfl) ?_
  refine pe_go rfl (s_getf rfl rfl) ?_
  refine pe_go rfl s_iconst ?_
  refine pe_go rfl (s_iload rfl) ?_
  refine pe_go rfl (s_imulN (c := 6) rfl) ?_
  refine pe_go rfl (s_ialdN (v := nI 1) rfl (by decide) (by decide) rfl (by decide)) ?_
  refine pe_go rfl (s_aload_n rfl) ?_
  refine pe_go rfl (s_getf rfl rfl) ?_
  refine pe_go rfl s_iconst ?_
  refine pe_go rfl (s_iload rfl) ?_
  refine pe_go rfl (s_imulN (c := 6) rfl) ?_
  refine pe_go rfl s_iconst ?_
  refine pe_go rfl (s_iaddN (c := 7) rfl) ?_
  refine pe_go rfl (s_ialdN (v := nI 2) rfl (by decide) (by decide) rfl (by decide)) ?_
  refine pe_go rfl (s_iload_n rfl) ?_
  refine pe_go rfl (s_iload_n rfl) ?_
  refine pe_go rfl (s_iload_n rfl) ?_
  refine pe_go rfl (s_iload rfl) ?_
  refine pe_callE rfl (s_invV rfl rfl rfl rfl) (m_isCut (by decide) (by decide)) ?_
  rintro _ _ ⟨rfl, rfl⟩
  cases b1 : cutC sXs sYs 1 2 x y tx ty
  · skip
    refine pe_go rfl (s_if_eq_t (by decide)) ?_
    refine pe_go rfl (s_iincN (y := nI 4) rfl (nI_add _ _) (lv' := [(6, .int (nI 4)), (5, .int (nI c)), (0, .ref 1), (1, .int x), (2, .int y), (3, .int tx), (4, .int ty)]) rfl) ?_
    refine pe_go rfl s_goto ?_
    refine pe_less (lv := [(6, .int (nI 4)), (5, .int (nI c)), (0, .ref 1), (1, .int x), (2, .int y), (3, .int tx), (4, .int ty)]) (lvLe_of rfl rfl (by repeat' (first | exact (fun _ h => absurd h List.not_mem_nil) | refine List.forall_mem_cons.mpr ⟨rfl, ?_⟩))) ?_
    exact pe_mono (fun r w1 h => ⟨h.1, by rw [h.2, sumB_f (b := false) rfl]⟩) (l_cut4 (c := c) (by omega))
  · skip
    refine pe_go rfl (s_if_eq_f (by decide)) ?_
    refine pe_go rfl (s_iincN (y := nI (c + 1)) rfl (nI_add _ _) (lv' := [(5, .int (nI (c + 1))), (6, .int (nI 3)), (0, .ref 1), (1, .int x), (2, .int y), (3, .int tx), (4, .int ty)]) rfl) ?_
    refine pe_go rfl (s_iincN (y := nI 4) rfl (nI_add _ _) (lv' := [(6, .int (nI 4)), (5, .int (nI (c + 1))), (0, .ref 1), (1, .int x), (2, .int y), (3, .int tx), (4, .int ty)]) rfl) ?_
    refine pe_go rfl s_goto ?_
    refine pe_less (lv := [(6, .int (nI 4)), (5, .int (nI (c + 1))), (0, .ref 1), (1, .int x), (2, .int y), (3, .int tx), (4, .int ty)]) (lvLe_of rfl rfl (by repeat' (first | exact (fun _ h => absurd h List.not_mem_nil) | refine List.forall_mem_cons.mpr ⟨rfl, ?_⟩))) ?_
    exact pe_mono (fun r w1 h => ⟨h.1, by rw [h.2, sumB_t (b := true) rfl]; exact congrArg (fun k => some (Value.int (nI k))) (by omega)⟩) (l_cut4 (c := c + 1) (by omega))
theorem l_cut2 {hs : Nat → Int32} {fx : Nat → Int64} {hx : Nat → Int32} {hy : Nat → Int32} {th : Int64} {hn : Int32} {g : Int32} {ap : Nat → Int32} {ow : Nat → Int32} {co : Nat → Int32} {ne : Nat → Int64} {rd : Nat → Int32} {tn : Int32} {li : Nat → Int64} {wa : Nat → Int64} {qu : Nat → Int32} {qn : Int32} {Q : pW} {c : Nat} (hcc : c ≤ 2) {x y tx ty : Int32} : qE 48 (6, [(6, .int (nI 2)), (5, .int (nI c)), (0, .ref 1), (1, .int x), (2, .int y), (3, .int tx), (4, .int ty)], [], (cM sXs sYs hs fx hx hy th hn g ap ow co sEn ne rd tn (nI 5) li wa qu qn Q)) (fun r w1 => w1 = (cM sXs sYs hs fx hx hy th hn g ap ow co sEn ne rd tn (nI 5) li wa qu qn Q) ∧ r = some (.int (nI (c + sumB [cutC sXs sYs 0 3 x y tx ty, cutC sXs sYs 1 2 x y tx ty, cutC sXs sYs 2 3 x y tx ty])))) := by
  refine pe_go rfl (s_iload rfl) ?_
  refine pe_go rfl (s_aload_n rfl) ?_
  refine pe_go rfl (s_getf rfl rfl) ?_
  refine pe_go rfl (s_icmp_ge_f (fun e => absurd ((nI_leI (by omega) (by omega)).mp e) (by omega))) ?_
  refine pe_go rfl (s_aload_n rfl) ?_
  refine pe_go rfl (s_getf rfl rfl) ?_
  refine pe_go rfl (s_aload_n rfl) ?_
  refine pe_go rfl (s_getf rfl rfl) ?_
  refine pe_go rfl s_iconst ?_
  refine pe_go rfl (s_iload rfl) ?_
  refine pe_go rfl (s_imulN (c := 4) rfl) ?_
  refine pe_go rfl (s_ialdN (v := nI 0) rfl (by decide) (by decide) rfl (by decide)) ?_
  refine pe_go rfl (s_aload_n rfl) ?_
  refine pe_go rfl (s_getf rfl rfl) ?_
  refine pe_go rfl s_iconst ?_
  refine pe_go rfl (s_iload rfl) ?_
  refine pe_go rfl (s_imulN (c := 4) rfl) ?_
  refine pe_go rfl s_iconst ?_
  refine pe_go rfl (s_iaddN (c := 5) rfl) ?_
  refine pe_go rfl (s_ialdN (v := nI 3) rfl (by decide) (by decide) rfl (by decide)) ?_
  refine pe_go rfl (s_iload_n rfl) ?_
  refine pe_go rfl (s_iload_n rfl) ?_
  refine pe_go rfl (s_iload_n rfl) ?_
  refine pe_go rfl (s_iload rfl) ?_
  refine pe_callE rfl (s_invV rfl rfl rfl rfl) (m_isCut (by decide) (by decide)) ?_
  rintro _ _ ⟨rfl, rfl⟩
  cases b1 : cutC sXs sYs 0 3 x y tx ty
  · skip
    refine pe_go rfl (s_if_eq_t (by decide)) ?_
    refine pe_go rfl (s_iincN (y := nI 3) rfl (nI_add _ _) (lv' := [(6, .int (nI 3)), (5, .int (nI c)), (0, .ref 1), (1, .int x), (2, .int y), (3, .int tx), (4, .int ty)]) rfl) ?_
    refine pe_go rfl s_goto ?_
    refine pe_less (lv := [(6, .int (nI 3)), (5, .int (nI c)), (0, .ref 1), (1, .int x), (2, .int y), (3, .int tx), (4, .int ty)]) (lvLe_of rfl rfl (by repeat' (first | exact (fun _ h => absurd h List.not_mem_nil) | refine List.forall_mem_cons.mpr ⟨rfl, ?_⟩))) ?_
    exact pe_mono (fun r w1 h => ⟨h.1, by rw [h.2, sumB_f (b := false) rfl]⟩) (l_cut3 (c := c) (by omega))
  · skip
    refine pe_go rfl (s_if_eq_f (by decide)) ?_
    refine pe_go rfl (s_iincN (y := nI (c + 1)) rfl (nI_add _ _) (lv' := [(5, .int (nI (c + 1))), (6, .int (nI 2)), (0, .ref 1), (1, .int x), (2, .int y), (3, .int tx), (4, .int ty)]) rfl) ?_
    refine pe_go rfl (s_iincN (y := nI 3) rfl (nI_add _ _) (lv' := [(6, .int (nI 3)), (5, .int (nI (c + 1))), (0, .ref 1), (1, .int x), (2, .int y), (3, .int tx), (4, .int ty)]) rfl) ?_
    refine pe_go rfl s_goto ?_
    refine pe_less (lv := [(6, .int (nI 3)), (5, .int (nI (c + 1))), (0, .ref 1), (1, .int x), (2, .int y), (3, .int tx), (4, .int ty)]) (lvLe_of rfl rfl (by repeat' (first | exact (fun _ h => absurd h List.not_mem_nil) | refine List.forall_mem_cons.mpr ⟨rfl, ?_⟩))) ?_
    exact pe_mono (fun r w1 h => ⟨h.1, by rw [h.2, sumB_t (b := true) rfl]; exact congrArg (fun k => some (Value.int (nI k))) (by omega)⟩) (l_cut3 (c := c + 1) (by omega))
theorem l_cut1 {hs : Nat → Int32} {fx : Nat → Int64} {hx : Nat → Int32} {hy : Nat → Int32} {th : Int64} {hn : Int32} {g : Int32} {ap : Nat → Int32} {ow : Nat → Int32} {co : Nat → Int32} {ne : Nat → Int64} {rd : Nat → Int32} {tn : Int32} {li : Nat → Int64} {wa : Nat → Int64} {qu : Nat → Int32} {qn : Int32} {Q : pW} {c : Nat} (hcc : c ≤ 1) {x y tx ty : Int32} : qE 48 (6, [(6, .int (nI 1)), (5, .int (nI c)), (0, .ref 1), (1, .int x), (2, .int y), (3, .int tx), (4, .int ty)], [], (cM sXs sYs hs fx hx hy th hn g ap ow co sEn ne rd tn (nI 5) li wa qu qn Q)) (fun r w1 => w1 = (cM sXs sYs hs fx hx hy th hn g ap ow co sEn ne rd tn (nI 5) li wa qu qn Q) ∧ r = some (.int (nI (c + sumB [cutC sXs sYs 0 2 x y tx ty, cutC sXs sYs 0 3 x y tx ty, cutC sXs sYs 1 2 x y tx ty, cutC sXs sYs 2 3 x y tx ty])))) := by
  refine pe_go rfl (s_iload rfl) ?_
  refine pe_go rfl (s_aload_n rfl) ?_
  refine pe_go rfl (s_getf rfl rfl) ?_
  refine pe_go rfl (s_icmp_ge_f (fun e => absurd ((nI_leI (by omega) (by omega)).mp e) (by omega))) ?_
  refine pe_go rfl (s_aload_n rfl) ?_
  refine pe_go rfl (s_getf rfl rfl) ?_
  refine pe_go rfl (s_aload_n rfl) ?_
  refine pe_go rfl (s_getf rfl rfl) ?_
  refine pe_go rfl s_iconst ?_
  refine pe_go rfl (s_iload rfl) ?_
  refine pe_go rfl (s_imulN (c := 2) rfl) ?_
  refine pe_go rfl (s_ialdN (v := nI 0) rfl (by decide) (by decide) rfl (by decide)) ?_
  refine pe_go rfl (s_aload_n rfl) ?_
  refine pe_go rfl (s_getf rfl rfl) ?_
  refine pe_go rfl s_iconst ?_
  refine pe_go rfl (s_iload rfl) ?_
  refine pe_go rfl (s_imulN (c := 2) rfl) ?_
  refine pe_go rfl s_iconst ?_
  refine pe_go rfl (s_iaddN (c := 3) rfl) ?_
  refine pe_go rfl (s_ialdN (v := nI 2) rfl (by decide) (by decide) rfl (by decide)) ?_
  refine pe_go rfl (s_iload_n rfl) ?_
  refine pe_go rfl (s_iload_n rfl) ?_
  refine pe_go rfl (s_iload_n rfl) ?_
  refine pe_go rfl (s_iload rfl) ?_
  refine pe_callE rfl (s_invV rfl rfl rfl rfl) (m_isCut (by decide) (by decide)) ?_
  rintro _ _ ⟨rfl, rfl⟩
  cases b1 : cutC sXs sYs 0 2 x y tx ty
  · skip
    refine pe_go rfl (s_if_eq_t (by decide)) ?_
    refine pe_go rfl (s_iincN (y := nI 2) rfl (nI_add _ _) (lv' := [(6, .int (nI 2)), (5, .int (nI c)), (0, .ref 1), (1, .int x), (2, .int y), (3, .int tx), (4, .int ty)]) rfl) ?_
    refine pe_go rfl s_goto ?_
    refine pe_less (lv := [(6, .int (nI 2)), (5, .int (nI c)), (0, .ref 1), (1, .int x), (2, .int y), (3, .int tx), (4, .int ty)]) (lvLe_of rfl rfl (by repeat' (first | exact (fun _ h => absurd h List.not_mem_nil) | refine List.forall_mem_cons.mpr ⟨rfl, ?_⟩))) ?_
    exact pe_mono (fun r w1 h => ⟨h.1, by rw [h.2, sumB_f (b := false) rfl]⟩) (l_cut2 (c := c) (by omega))
  · skip
    refine pe_go rfl (s_if_eq_f (by decide)) ?_
    refine pe_go rfl (s_iincN (y := nI (c + 1)) rfl (nI_add _ _) (lv' := [(5, .int (nI (c + 1))), (6, .int (nI 1)), (0, .ref 1), (1, .int x), (2, .int y), (3, .int tx), (4, .int ty)]) rfl) ?_
    refine pe_go rfl (s_iincN (y := nI 2) rfl (nI_add _ _) (lv' := [(6, .int (nI 2)), (5, .int (nI (c + 1))), (0, .ref 1), (1, .int x), (2, .int y), (3, .int tx), (4, .int ty)]) rfl) ?_
    refine pe_go rfl s_goto ?_
    refine pe_less (lv := [(6, .int (nI 2)), (5, .int (nI (c + 1))), (0, .ref 1), (1, .int x), (2, .int y), (3, .int tx), (4, .int ty)]) (lvLe_of rfl rfl (by repeat' (first | exact (fun _ h => absurd h List.not_mem_nil) | refine List.forall_mem_cons.mpr ⟨rfl, ?_⟩))) ?_
    exact pe_mono (fun r w1 h => ⟨h.1, by rw [h.2, sumB_t (b := true) rfl]; exact congrArg (fun k => some (Value.int (nI k))) (by omega)⟩) (l_cut2 (c := c + 1) (by omega))
theorem l_cut0 {hs : Nat → Int32} {fx : Nat → Int64} {hx : Nat → Int32} {hy : Nat → Int32} {th : Int64} {hn : Int32} {g : Int32} {ap : Nat → Int32} {ow : Nat → Int32} {co : Nat → Int32} {ne : Nat → Int64} {rd : Nat → Int32} {tn : Int32} {li : Nat → Int64} {wa : Nat → Int64} {qu : Nat → Int32} {qn : Int32} {Q : pW} {c : Nat} (hcc : c ≤ 0) {x y tx ty : Int32} : qE 48 (6, [(6, .int (nI 0)), (5, .int (nI c)), (0, .ref 1), (1, .int x), (2, .int y), (3, .int tx), (4, .int ty)], [], (cM sXs sYs hs fx hx hy th hn g ap ow co sEn ne rd tn (nI 5) li wa qu qn Q)) (fun r w1 => w1 = (cM sXs sYs hs fx hx hy th hn g ap ow co sEn ne rd tn (nI 5) li wa qu qn Q) ∧ r = some (.int (nI (c + sumB [cutC sXs sYs 0 1 x y tx ty, cutC sXs sYs 0 2 x y tx ty, cutC sXs sYs 0 3 x y tx ty, cutC sXs sYs 1 2 x y tx ty, cutC sXs sYs 2 3 x y tx ty])))) := by
  refine pe_go rfl (s_iload rfl) ?_
  refine pe_go rfl (s_aload_n rfl) ?_
  refine pe_go rfl (s_getf rfl rfl) ?_
  refine pe_go rfl (s_icmp_ge_f (fun e => absurd ((nI_leI (by omega) (by omega)).mp e) (by omega))) ?_
  refine pe_go rfl (s_aload_n rfl) ?_
  refine pe_go rfl (s_getf rfl rfl) ?_
  refine pe_go rfl (s_aload_n rfl) ?_
  refine pe_go rfl (s_getf rfl rfl) ?_
  refine pe_go rfl s_iconst ?_
  refine pe_go rfl (s_iload rfl) ?_
  refine pe_go rfl (s_imulN (c := 0) rfl) ?_
  refine pe_go rfl (s_ialdN (v := nI 0) rfl (by decide) (by decide) rfl (by decide)) ?_
  refine pe_go rfl (s_aload_n rfl) ?_
  refine pe_go rfl (s_getf rfl rfl) ?_
  refine pe_go rfl s_iconst ?_
  refine pe_go rfl (s_iload rfl) ?_
  refine pe_go rfl (s_imulN (c := 0) rfl) ?_
  refine pe_go rfl s_iconst ?_
  refine pe_go rfl (s_iaddN (c := 1) rfl) ?_
  refine pe_go rfl (s_ialdN (v := nI 1) rfl (by decide) (by decide) rfl (by decide)) ?_
  refine pe_go rfl (s_iload_n rfl) ?_
  refine pe_go rfl (s_iload_n rfl) ?_
  refine pe_go rfl (s_iload_n rfl) ?_
  refine pe_go rfl (s_iload rfl) ?_
  refine pe_callE rfl (s_invV rfl rfl rfl rfl) (m_isCut (by decide) (by decide)) ?_
  rintro _ _ ⟨rfl, rfl⟩
  cases b1 : cutC sXs sYs 0 1 x y tx ty
  · skip
    refine pe_go rfl (s_if_eq_t (by decide)) ?_
    refine pe_go rfl (s_iincN (y := nI 1) rfl (nI_add _ _) (lv' := [(6, .int (nI 1)), (5, .int (nI c)), (0, .ref 1), (1, .int x), (2, .int y), (3, .int tx), (4, .int ty)]) rfl) ?_
    refine pe_go rfl s_goto ?_
    refine pe_less (lv := [(6, .int (nI 1)), (5, .int (nI c)), (0, .ref 1), (1, .int x), (2, .int y), (3, .int tx), (4, .int ty)]) (lvLe_of rfl rfl (by repeat' (first | exact (fun _ h => absurd h List.not_mem_nil) | refine List.forall_mem_cons.mpr ⟨rfl, ?_⟩))) ?_
    exact pe_mono (fun r w1 h => ⟨h.1, by rw [h.2, sumB_f (b := false) rfl]⟩) (l_cut1 (c := c) (by omega))
  · skip
    refine pe_go rfl (s_if_eq_f (by decide)) ?_
    refine pe_go rfl (s_iincN (y := nI (c + 1)) rfl (nI_add _ _) (lv' := [(5, .int (nI (c + 1))), (6, .int (nI 0)), (0, .ref 1), (1, .int x), (2, .int y), (3, .int tx), (4, .int ty)]) rfl) ?_
    refine pe_go rfl (s_iincN (y := nI 1) rfl (nI_add _ _) (lv' := [(6, .int (nI 1)), (5, .int (nI (c + 1))), (0, .ref 1), (1, .int x), (2, .int y), (3, .int tx), (4, .int ty)]) rfl) ?_
    refine pe_go rfl s_goto ?_
    refine pe_less (lv := [(6, .int (nI 1)), (5, .int (nI (c + 1))), (0, .ref 1), (1, .int x), (2, .int y), (3, .int tx), (4, .int ty)]) (lvLe_of rfl rfl (by repeat' (first | exact (fun _ h => absurd h List.not_mem_nil) | refine List.forall_mem_cons.mpr ⟨rfl, ?_⟩))) ?_
    exact pe_mono (fun r w1 h => ⟨h.1, by rw [h.2, sumB_t (b := true) rfl]; exact congrArg (fun k => some (Value.int (nI k))) (by omega)⟩) (l_cut1 (c := c + 1) (by omega))
theorem m_countCut {hs : Nat → Int32} {fx : Nat → Int64} {hx : Nat → Int32} {hy : Nat → Int32} {th : Int64} {hn : Int32} {g : Int32} {ap : Nat → Int32} {ow : Nat → Int32} {co : Nat → Int32} {ne : Nat → Int64} {rd : Nat → Int32} {tn : Int32} {li : Nat → Int64} {wa : Nat → Int64} {qu : Nat → Int32} {qn : Int32} {Q : pW} {x y tx ty : Int32} : qC 48 [.ref 1, .int x, .int y, .int tx, .int ty] (cM sXs sYs hs fx hx hy th hn g ap ow co sEn ne rd tn (nI 5) li wa qu qn Q) (fun r w1 => w1 = (cM sXs sYs hs fx hx hy th hn g ap ow co sEn ne rd tn (nI 5) li wa qu qn Q) ∧ r = some (.int (nI (sumB [cutC sXs sYs 0 1 x y tx ty, cutC sXs sYs 0 2 x y tx ty, cutC sXs sYs 0 3 x y tx ty, cutC sXs sYs 1 2 x y tx ty, cutC sXs sYs 2 3 x y tx ty])))) := by
  refine pc_run rfl ?_
  refine pe_go rfl s_iconst ?_
  refine pe_go rfl (s_istore (lv' := [(5, .int (nI 0)), (0, .ref 1), (1, .int x), (2, .int y), (3, .int tx), (4, .int ty)]) rfl) ?_
  refine pe_go rfl s_iconst ?_
  refine pe_go rfl (s_istore (lv' := [(6, .int (nI 0)), (5, .int (nI 0)), (0, .ref 1), (1, .int x), (2, .int y), (3, .int tx), (4, .int ty)]) rfl) ?_
  exact pe_mono (fun r w1 h => ⟨h.1, by rw [h.2, Nat.zero_add]⟩) (l_cut0 (c := 0) (by omega))
def cutV (x y tx ty : Int32) : Int32 := bif sqB x y && sqB tx ty then nI (sumB [cutC sXs sYs 0 1 x y tx ty, cutC sXs sYs 0 2 x y tx ty, cutC sXs sYs 0 3 x y tx ty, cutC sXs sYs 1 2 x y tx ty, cutC sXs sYs 2 3 x y tx ty]) else nI 4294967295
theorem m_cut {hs : Nat → Int32} {fx : Nat → Int64} {hx : Nat → Int32} {hy : Nat → Int32} {th : Int64} {hn : Int32} {g : Int32} {ap : Nat → Int32} {ow : Nat → Int32} {co : Nat → Int32} {ne : Nat → Int64} {rd : Nat → Int32} {tn : Int32} {li : Nat → Int64} {wa : Nat → Int64} {qu : Nat → Int32} {qn : Int32} {Q : pW} {x y tx ty : Int32} : qC 150 [.ref 0, .int x, .int y, .int tx, .int ty] (cM sXs sYs hs fx hx hy th hn g ap ow co sEn ne rd tn (nI 5) li wa qu qn Q) (fun r w1 => w1 = (cM sXs sYs hs fx hx hy th hn g ap ow co sEn ne rd tn (nI 5) li wa qu qn Q) ∧ r = some (.int (cutV x y tx ty))) := by
  refine pc_run rfl ?_
  refine pe_go rfl (s_iload_n rfl) ?_
  refine pe_go rfl (s_iload_n rfl) ?_
  refine pe_call rfl (s_invS rfl rfl rfl) (c_inSquare) ?_
  cases b1 : sqB x y
  · skip
    refine pe_go rfl (s_if_eq_t (by decide)) ?_
    refine pe_go rfl s_iconst ?_
    exact pe_ret rfl s_retI ⟨rfl, by unfold cutV; rw [b1]; rfl⟩
  · skip
    refine pe_go rfl (s_if_eq_f (by decide)) ?_
    refine pe_go rfl (s_iload_n rfl) ?_
    refine pe_go rfl (s_iload rfl) ?_
    refine pe_call rfl (s_invS rfl rfl rfl) (c_inSquare) ?_
    cases b2 : sqB tx ty
    · skip
      refine pe_go rfl (s_if_eq_t (by decide)) ?_
      refine pe_go rfl s_iconst ?_
      exact pe_ret rfl s_retI ⟨rfl, by unfold cutV; rw [b1, b2]; rfl⟩
    · skip
      refine pe_go rfl (s_if_eq_f (by decide)) ?_
      refine pe_go rfl (s_aload_n rfl) ?_
      refine pe_go rfl (s_getf rfl rfl) ?_
      refine pe_go rfl (s_iload_n rfl) ?_
      refine pe_go rfl (s_iload_n rfl) ?_
      refine pe_go rfl (s_iload_n rfl) ?_
      refine pe_go rfl (s_iload rfl) ?_
      refine pe_callE rfl (s_invV rfl rfl rfl rfl) (m_countCut) ?_
      rintro _ _ ⟨rfl, rfl⟩
      refine pe_go rfl s_goto ?_
      exact pe_ret rfl s_retI ⟨rfl, by unfold cutV; rw [b1, b2]; rfl⟩
theorem h57 : w0e[57]? = some (.inr (9, [.ref 58, .ref 59, .ref 60, .ref 61, .int 2, .ref 62, .ref 63, .ref 64, .ref 65, .ref 66, .ref 67, .ref 68, .ref 69, .int 0, .int 0, .ref 70, .int 0, .ref 71, .int 2])) := rfl
theorem h58 : w0e[58]? = some (.inl (0, 37340, .inl sA)) := rfl
theorem h61 : w0e[61]? = some (.inl (0, 1600, .inl sLf)) := rfl
def onR (p : Nat) (x y tx ty : Int32) : Int32 := (tx - x) * (yF sA p - y) - (ty - y) * (xF sA p - x)
def cutR (p q : Nat) (x y tx ty : Int32) : Bool := apB (onR p x y tx ty) (onR q x y tx ty) && apB (sideF sA p q x y) (sideF sA p q tx ty)
theorem inB_sq {x y : Int32} : (inB x (nI 4294966296) (nI 1000) && inB y (nI 4294966296) (nI 1000)) = sqB x y := by
  unfold inB sqB
  simp only [Bool.and_assoc]
theorem r_inSqE {w : pW} {x y : Int32} : qC 189 [.int x, .int y] w (fun r w1 => r = some (.int (bI (sqB x y))) ∧ w1 = w) := by
  refine pc_run rfl ?_
  refine pe_go rfl (s_iload_n rfl) ?_
  refine pe_go rfl s_sipush ?_
  refine pe_go rfl s_sipush ?_
  refine pe_call rfl (s_invS rfl rfl rfl) (r_isIn) ?_
  cases b1 : inB (x) (nI 4294966296) (nI 1000)
  · skip
    refine pe_go rfl (s_if_eq_t (by decide)) ?_
    refine pe_go rfl s_iconst ?_
    exact pe_ret rfl s_ret0 ⟨by rw [← inB_sq, b1]; rfl, rfl⟩
  · skip
    refine pe_go rfl (s_if_eq_f (by decide)) ?_
    refine pe_go rfl (s_iload_n rfl) ?_
    refine pe_go rfl s_sipush ?_
    refine pe_go rfl s_sipush ?_
    refine pe_call rfl (s_invS rfl rfl rfl) (r_isIn) ?_
    cases b2 : inB (y) (nI 4294966296) (nI 1000)
    · skip
      refine pe_go rfl (s_if_eq_t (by decide)) ?_
      refine pe_go rfl s_iconst ?_
      exact pe_ret rfl s_ret0 ⟨by rw [← inB_sq, b1, b2]; rfl, rfl⟩
    · skip
      refine pe_go rfl (s_if_eq_f (by decide)) ?_
      refine pe_go rfl s_iconst ?_
      refine pe_go rfl s_goto ?_
      exact pe_ret rfl s_ret1 ⟨by rw [← inB_sq, b1, b2]; rfl, rfl⟩
theorem r_isInSquare {w : pW} {x y : Int32} : pRun 189 [.int x, .int y] w (some (.int (bI (sqB x y)))) w := by
  obtain ⟨r, w1, ⟨rfl, rfl⟩, h⟩ := r_inSqE (w := w) (x := x) (y := y)
  exact h
theorem r_isCutE {p q : Nat} (hp : p < 40) (hq : q < 40) {x y tx ty : Int32} : qC 308 [.ref 57, .int (nI p), .int (nI q), .int x, .int y, .int tx, .int ty] w0e (fun r w1 => r = some (.int (bI (cutR p q x y tx ty))) ∧ w1 = w0e) := by
  refine pc_run rfl ?_
  refine pe_go rfl (s_iload rfl) ?_
  refine pe_go rfl (s_iload_n rfl) ?_
  refine pe_go rfl s_isub ?_
  refine pe_go rfl (s_aload_n rfl) ?_
  refine pe_go rfl (s_iload_n rfl) ?_
  refine pe_call rfl (s_invV rfl h57 rfl rfl) (r_yOf h57 h58 (by decide) (by decide) (by omega)) ?_
  refine pe_go rfl (s_iload rfl) ?_
  refine pe_go rfl s_isub ?_
  refine pe_go rfl s_imul ?_
  refine pe_go rfl (s_iload rfl) ?_
  refine pe_go rfl (s_iload rfl) ?_
  refine pe_go rfl s_isub ?_
  refine pe_go rfl (s_aload_n rfl) ?_
  refine pe_go rfl (s_iload_n rfl) ?_
  refine pe_call rfl (s_invV rfl h57 rfl rfl) (r_xOf h57 h58 (by decide) (by decide) (by omega)) ?_
  refine pe_go rfl (s_iload_n rfl) ?_
  refine pe_go rfl s_isub ?_
  refine pe_go rfl s_imul ?_
  refine pe_go rfl s_isub ?_
  refine pe_go rfl (s_istore (lv' := [(7, .int ((((tx) - (x)) * ((yF sA p) - (y))) - (((ty) - (y)) * ((xF sA p) - (x))))), (0, .ref 57), (1, .int (nI p)), (2, .int (nI q)), (3, .int x), (4, .int y), (5, .int tx), (6, .int ty)]) rfl) ?_
  refine pe_go rfl (s_iload rfl) ?_
  refine pe_go rfl (s_iload_n rfl) ?_
  refine pe_go rfl s_isub ?_
  refine pe_go rfl (s_aload_n rfl) ?_
  refine pe_go rfl (s_iload_n rfl) ?_
  refine pe_call rfl (s_invV rfl h57 rfl rfl) (r_yOf h57 h58 (by decide) (by decide) (by omega)) ?_
  refine pe_go rfl (s_iload rfl) ?_
  refine pe_go rfl s_isub ?_
  refine pe_go rfl s_imul ?_
  refine pe_go rfl (s_iload rfl) ?_
  refine pe_go rfl (s_iload rfl) ?_
  refine pe_go rfl s_isub ?_
  refine pe_go rfl (s_aload_n rfl) ?_
  refine pe_go rfl (s_iload_n rfl) ?_
  refine pe_call rfl (s_invV rfl h57 rfl rfl) (r_xOf h57 h58 (by decide) (by decide) (by omega)) ?_
  refine pe_go rfl (s_iload_n rfl) ?_
  refine pe_go rfl s_isub ?_
  refine pe_go rfl s_imul ?_
  refine pe_go rfl s_isub ?_
  refine pe_go rfl (s_istore (lv' := [(8, .int ((((tx) - (x)) * ((yF sA q) - (y))) - (((ty) - (y)) * ((xF sA q) - (x))))), (7, .int ((((tx) - (x)) * ((yF sA p) - (y))) - (((ty) - (y)) * ((xF sA p) - (x))))), (0, .ref 57), (1, .int (nI p)), (2, .int (nI q)), (3, .int x), (4, .int y), (5, .int tx), (6, .int ty)]) rfl) ?_
  refine pe_go rfl (s_iload rfl) ?_
  refine pe_go rfl (s_iload rfl) ?_
  refine pe_call rfl (s_invS rfl rfl rfl) (r_areApart) ?_
  cases b1 : apB ((((tx) - (x)) * ((yF sA p) - (y))) - (((ty) - (y)) * ((xF sA p) - (x)))) ((((tx) - (x)) * ((yF sA q) - (y))) - (((ty) - (y)) * ((xF sA q) - (x))))
  · skip
    refine pe_go rfl (s_if_eq_t (by decide)) ?_
    refine pe_go rfl s_iconst ?_
    exact pe_ret rfl s_ret0 ⟨by unfold cutR onR; rw [b1]; rfl, rfl⟩
  · skip
    refine pe_go rfl (s_if_eq_f (by decide)) ?_
    refine pe_go rfl (s_aload_n rfl) ?_
    refine pe_go rfl (s_iload_n rfl) ?_
    refine pe_go rfl (s_iload_n rfl) ?_
    refine pe_go rfl (s_iload_n rfl) ?_
    refine pe_go rfl (s_iload rfl) ?_
    refine pe_call rfl (s_invV rfl h57 rfl rfl) (r_sideOf h57 h58 (by decide) (by decide) (by omega) (by omega)) ?_
    refine pe_go rfl (s_aload_n rfl) ?_
    refine pe_go rfl (s_iload_n rfl) ?_
    refine pe_go rfl (s_iload_n rfl) ?_
    refine pe_go rfl (s_iload rfl) ?_
    refine pe_go rfl (s_iload rfl) ?_
    refine pe_call rfl (s_invV rfl h57 rfl rfl) (r_sideOf h57 h58 (by decide) (by decide) (by omega) (by omega)) ?_
    refine pe_call rfl (s_invS rfl rfl rfl) (r_areApart) ?_
    cases b2 : apB (sideF sA p q x y) (sideF sA p q tx ty)
    · skip
      refine pe_go rfl (s_if_eq_t (by decide)) ?_
      refine pe_go rfl s_iconst ?_
      exact pe_ret rfl s_ret0 ⟨by unfold cutR onR; rw [b1, b2]; rfl, rfl⟩
    · skip
      refine pe_go rfl (s_if_eq_f (by decide)) ?_
      refine pe_go rfl s_iconst ?_
      refine pe_go rfl s_goto ?_
      exact pe_ret rfl s_ret1 ⟨by unfold cutR onR; rw [b1, b2]; rfl, rfl⟩
theorem r_isCutBy {p q : Nat} (hp : p < 40) (hq : q < 40) {x y tx ty : Int32} : pRun 308 [.ref 57, .int (nI p), .int (nI q), .int x, .int y, .int tx, .int ty] w0e (some (.int (bI (cutR p q x y tx ty)))) w0e := by
  obtain ⟨r, w, ⟨rfl, rfl⟩, h⟩ := r_isCutE hp hq (x := x) (y := y) (tx := tx) (ty := ty)
  exact h
def cuF (B : Nat → Bool) : Nat → Nat → Nat → Nat
  | 0, _, n => n
  | m + 1, q, n => cuF B m (q + 1) (bif B q then n + 1 else n)
def ctF (B : Nat → Nat → Bool) : Nat → Nat → Nat → Nat
  | 0, _, n => n
  | m + 1, p, n => ctF B m (p + 1) (cuF (B p) p 0 n)
def crB (x y tx ty : Int32) (p q : Nat) : Bool := edgF sLf p q && cutR p q x y tx ty
theorem cuF_le {B : Nat → Bool} : ∀ {m q n : Nat}, cuF B m q n ≤ n + m := by
  intro m
  induction m with
  | zero => intro q n; exact Nat.le_refl _
  | succ m ih =>
    intro q n
    have := ih (q := q + 1) (n := bif B q then n + 1 else n)
    show cuF B m (q + 1) (bif B q then n + 1 else n) ≤ n + (m + 1)
    cases B q
    · have : cuF B m (q + 1) n ≤ n + m := ih
      show cuF B m (q + 1) n ≤ n + (m + 1)
      omega
    · have : cuF B m (q + 1) (n + 1) ≤ n + 1 + m := ih
      show cuF B m (q + 1) (n + 1) ≤ n + (m + 1)
      omega
theorem l_cutQ {x y tx ty : Int32} {Φ : Option Value → pW → Prop} {p : Nat} (hp : p < 40) : ∀ (m q n : Nat), q + m = p → n + m ≤ 1600 → (∀ {lv : pLv}, lvLe [(6, .int (nI (p + 1))), (5, .int (nI (cuF (crB x y tx ty p) m q n))), (0, .ref 57), (1, .int x), (2, .int y), (3, .int tx), (4, .int ty)] lv → qE 309 (25, lv, [], w0e) Φ) → ∀ {lv : pLv}, lvLe [(7, .int (nI q)), (5, .int (nI n)), (6, .int (nI p)), (0, .ref 57), (1, .int x), (2, .int y), (3, .int tx), (4, .int ty)] lv → qE 309 (35, lv, [], w0e) Φ := by
  intro m
  induction m with
  | zero =>
    intro q n hq hn K lv hl
    refine pe_less hl ?_
    refine pe_go rfl (s_iload rfl) ?_
    refine pe_go rfl (s_iload rfl) ?_
    refine pe_go rfl (s_icmp_ge_t ((nI_leI (by omega) (by omega)).mpr (by omega))) ?_
    refine pe_go rfl (s_iincN (y := nI (p + 1)) rfl (nI_add _ _) (lv' := [(6, .int (nI (p + 1))), (7, .int (nI q)), (5, .int (nI n)), (0, .ref 57), (1, .int x), (2, .int y), (3, .int tx), (4, .int ty)]) rfl) ?_
    refine pe_go rfl s_goto ?_
    exact K (lvLe_of rfl rfl (by repeat' (first | exact (fun _ h => absurd h List.not_mem_nil) | refine List.forall_mem_cons.mpr ⟨rfl, ?_⟩)))
  | succ m ih =>
    intro q n hq hn K lv hl
    refine pe_less hl ?_
    refine pe_go rfl (s_iload rfl) ?_
    refine pe_go rfl (s_iload rfl) ?_
    refine pe_go rfl (s_icmp_ge_f (fun e => absurd ((nI_leI (by omega) (by omega)).mp e) (by omega))) ?_
    refine pe_go rfl (s_iload rfl) ?_
    refine pe_go rfl (s_aload_n rfl) ?_
    refine pe_go rfl (s_iload rfl) ?_
    refine pe_go rfl (s_iload rfl) ?_
    refine pe_call rfl (s_invV rfl h57 rfl rfl) (r_isEdgeNowG h57 rfl h61 (by decide) (by decide) (by omega) (by omega)) ?_
    cases b1 : edgF sLf p q
    · skip
      refine pe_go rfl (s_if_eq_t (by decide)) ?_
      refine pe_go rfl s_iconst ?_
      refine pe_go rfl (s_iaddN (c := n + 0) rfl) ?_
      refine pe_go rfl (s_istore (lv' := [(5, .int (nI (n + 0))), (7, .int (nI q)), (6, .int (nI p)), (0, .ref 57), (1, .int x), (2, .int y), (3, .int tx), (4, .int ty)]) rfl) ?_
      refine pe_go rfl (s_iincN (y := nI (q + 1)) rfl (nI_add _ _) (lv' := [(7, .int (nI (q + 1))), (5, .int (nI (n + 0))), (6, .int (nI p)), (0, .ref 57), (1, .int x), (2, .int y), (3, .int tx), (4, .int ty)]) rfl) ?_
      refine pe_go rfl s_goto ?_
      have hB : crB x y tx ty p q = false := by unfold crB; rw [b1]; rfl
      refine ih (q + 1) (n) (by omega) (by omega) (fun {lv} hl => K ?_) (lvLe_of rfl rfl (by repeat' (first | exact (fun _ h => absurd h List.not_mem_nil) | refine List.forall_mem_cons.mpr ⟨rfl, ?_⟩)))
      have e : cuF (crB x y tx ty p) (m + 1) q n = cuF (crB x y tx ty p) m (q + 1) (n) := by
        show cuF (crB x y tx ty p) m (q + 1) (bif crB x y tx ty p q then n + 1 else n) = _
        rw [hB]
        rfl
      rw [e]
      exact hl
    · skip
      refine pe_go rfl (s_if_eq_f (by decide)) ?_
      refine pe_go rfl (s_aload_n rfl) ?_
      refine pe_go rfl (s_iload rfl) ?_
      refine pe_go rfl (s_iload rfl) ?_
      refine pe_go rfl (s_iload_n rfl) ?_
      refine pe_go rfl (s_iload_n rfl) ?_
      refine pe_go rfl (s_iload_n rfl) ?_
      refine pe_go rfl (s_iload rfl) ?_
      refine pe_call rfl (s_invV rfl h57 rfl rfl) (r_isCutBy (by omega) (by omega)) ?_
      cases b2 : cutR p q x y tx ty
      · skip
        refine pe_go rfl (s_if_eq_t (by decide)) ?_
        refine pe_go rfl s_iconst ?_
        refine pe_go rfl (s_iaddN (c := n + 0) rfl) ?_
        refine pe_go rfl (s_istore (lv' := [(5, .int (nI (n + 0))), (7, .int (nI q)), (6, .int (nI p)), (0, .ref 57), (1, .int x), (2, .int y), (3, .int tx), (4, .int ty)]) rfl) ?_
        refine pe_go rfl (s_iincN (y := nI (q + 1)) rfl (nI_add _ _) (lv' := [(7, .int (nI (q + 1))), (5, .int (nI (n + 0))), (6, .int (nI p)), (0, .ref 57), (1, .int x), (2, .int y), (3, .int tx), (4, .int ty)]) rfl) ?_
        refine pe_go rfl s_goto ?_
        have hB : crB x y tx ty p q = false := by unfold crB; rw [b1, b2]; rfl
        refine ih (q + 1) (n) (by omega) (by omega) (fun {lv} hl => K ?_) (lvLe_of rfl rfl (by repeat' (first | exact (fun _ h => absurd h List.not_mem_nil) | refine List.forall_mem_cons.mpr ⟨rfl, ?_⟩)))
        have e : cuF (crB x y tx ty p) (m + 1) q n = cuF (crB x y tx ty p) m (q + 1) (n) := by
          show cuF (crB x y tx ty p) m (q + 1) (bif crB x y tx ty p q then n + 1 else n) = _
          rw [hB]
          rfl
        rw [e]
        exact hl
      · skip
        refine pe_go rfl (s_if_eq_f (by decide)) ?_
        refine pe_go rfl s_iconst ?_
        refine pe_go rfl s_goto ?_
        refine pe_go rfl (s_iaddN (c := n + 1) rfl) ?_
        refine pe_go rfl (s_istore (lv' := [(5, .int (nI (n + 1))), (7, .int (nI q)), (6, .int (nI p)), (0, .ref 57), (1, .int x), (2, .int y), (3, .int tx), (4, .int ty)]) rfl) ?_
        refine pe_go rfl (s_iincN (y := nI (q + 1)) rfl (nI_add _ _) (lv' := [(7, .int (nI (q + 1))), (5, .int (nI (n + 1))), (6, .int (nI p)), (0, .ref 57), (1, .int x), (2, .int y), (3, .int tx), (4, .int ty)]) rfl) ?_
        refine pe_go rfl s_goto ?_
        have hB : crB x y tx ty p q = true := by unfold crB; rw [b1, b2]; rfl
        refine ih (q + 1) (n + 1) (by omega) (by omega) (fun {lv} hl => K ?_) (lvLe_of rfl rfl (by repeat' (first | exact (fun _ h => absurd h List.not_mem_nil) | refine List.forall_mem_cons.mpr ⟨rfl, ?_⟩)))
        have e : cuF (crB x y tx ty p) (m + 1) q n = cuF (crB x y tx ty p) m (q + 1) (n + 1) := by
          show cuF (crB x y tx ty p) m (q + 1) (bif crB x y tx ty p q then n + 1 else n) = _
          rw [hB]
          rfl
        rw [e]
        exact hl
theorem l_cutP {x y tx ty : Int32} : ∀ (m p n : Nat), p + m = 40 → n ≤ 40 * p → ∀ {lv : pLv}, lvLe [(6, .int (nI p)), (5, .int (nI n)), (0, .ref 57), (1, .int x), (2, .int y), (3, .int tx), (4, .int ty)] lv → qE 309 (25, lv, [], w0e) (fun r w1 => r = some (.int (nI (ctF (crB x y tx ty) m p n))) ∧ w1 = w0e) := by
  intro m
  induction m with
  | zero =>
    intro p n hp hn lv hl
    refine pe_less hl ?_
    refine pe_go rfl (s_iload rfl) ?_
    refine pe_go rfl s_bipush ?_
    refine pe_go rfl (s_icmp_ge_t ((nI_leI (by omega) (by omega)).mpr (by omega))) ?_
    refine pe_go rfl (s_iload rfl) ?_
    exact pe_ret rfl s_retI ⟨rfl, rfl⟩
  | succ m ih =>
    intro p n hp hn lv hl
    refine pe_less hl ?_
    refine pe_go rfl (s_iload rfl) ?_
    refine pe_go rfl s_bipush ?_
    refine pe_go rfl (s_icmp_ge_f (fun e => absurd ((nI_leI (by omega) (by omega)).mp e) (by omega))) ?_
    refine pe_go rfl s_iconst ?_
    refine pe_go rfl (s_istore (lv' := [(7, .int (nI 0)), (6, .int (nI p)), (5, .int (nI n)), (0, .ref 57), (1, .int x), (2, .int y), (3, .int tx), (4, .int ty)]) rfl) ?_
    exact l_cutQ (by omega) p 0 n (by omega) (by omega) (fun {lv} hl => ih (p + 1) _ (by omega) (by have := cuF_le (B := crB x y tx ty p) (m := p) (q := 0) (n := n); omega) hl) (lvLe_of rfl rfl (by repeat' (first | exact (fun _ h => absurd h List.not_mem_nil) | refine List.forall_mem_cons.mpr ⟨rfl, ?_⟩)))
def cutW (x y tx ty : Int32) : Int32 := bif sqB x y && sqB tx ty then nI (ctF (crB x y tx ty) 40 0 0) else nI 4294967295
theorem r_cut {x y tx ty : Int32} : qC 309 [.ref 57, .int x, .int y, .int tx, .int ty] w0e (fun r w1 => r = some (.int (cutW x y tx ty)) ∧ w1 = w0e) := by
  refine pc_run rfl ?_
  refine pe_go rfl (s_iload_n rfl) ?_
  refine pe_go rfl (s_iload_n rfl) ?_
  refine pe_call rfl (s_invS rfl rfl rfl) (r_isInSquare) ?_
  cases b1 : sqB x y
  · skip
    refine pe_go rfl (s_if_eq_t (by decide)) ?_
    refine pe_go rfl s_iconst ?_
    exact pe_ret rfl s_retI ⟨by unfold cutW; rw [b1]; rfl, rfl⟩
  · skip
    refine pe_go rfl (s_if_eq_f (by decide)) ?_
    refine pe_go rfl (s_iload_n rfl) ?_
    refine pe_go rfl (s_iload rfl) ?_
    refine pe_call rfl (s_invS rfl rfl rfl) (r_isInSquare) ?_
    cases b2 : sqB tx ty
    · skip
      refine pe_go rfl (s_if_ne_f (by decide)) ?_
      refine pe_go rfl s_iconst ?_
      exact pe_ret rfl s_retI ⟨by unfold cutW; rw [b1, b2]; rfl, rfl⟩
    · skip
      refine pe_go rfl (s_if_ne_t (by decide)) ?_
      refine pe_go rfl s_iconst ?_
      refine pe_go rfl (s_istore (lv' := [(5, .int (nI 0)), (0, .ref 57), (1, .int x), (2, .int y), (3, .int tx), (4, .int ty)]) rfl) ?_
      refine pe_go rfl s_iconst ?_
      refine pe_go rfl (s_istore (lv' := [(6, .int (nI 0)), (5, .int (nI 0)), (0, .ref 57), (1, .int x), (2, .int y), (3, .int tx), (4, .int ty)]) rfl) ?_
      exact pe_mono (fun r w1 h => ⟨by rw [h.1]; unfold cutW; rw [b1, b2]; rfl, h.2⟩) (l_cutP 40 0 0 rfl (by omega) (lvLe_of rfl rfl (by repeat' (first | exact (fun _ h => absurd h List.not_mem_nil) | refine List.forall_mem_cons.mpr ⟨rfl, ?_⟩))))
