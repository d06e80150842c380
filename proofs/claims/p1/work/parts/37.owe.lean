/-! WHAT IS OWED, at the written world: checks by the kernel, and the way back to the law's own world. By hand. -/
theorem pEq1.sz {c c' : pCell} (h : pEq1 c c') : pcsz c = pcsz c' := by
  rcases c with ⟨k, n, f | f | f⟩ | o
  · obtain ⟨f2, rfl, _⟩ := h.int; rfl
  · obtain ⟨f2, rfl, _⟩ := h.long; rfl
  · rcases c' with ⟨k', n', g2 | g2 | g2⟩ | o' <;> exact h.elim
  · have e := h.obj
    subst e
    rfl
theorem pEqW.sz {w w' : pW} (H : pEqW w w') : pwsz w = pwsz w' := by
  unfold pwsz
  congr 1
  apply List.ext_getElem?
  intro k
  rw [List.getElem?_map, List.getElem?_map]
  cases h : w[k]? with
  | none =>
    have h2 : w'[k]? = none := by
      rw [List.getElem?_eq_none_iff] at h ⊢
      rw [← H.1]
      exact h
    rw [h2]
  | some c =>
    obtain ⟨c', h1, h2⟩ := H.get h
    rw [h1]
    exact congrArg some h2.sz
theorem pEqW.sym1 {c c' : pCell} (h : pEq1 c c') : pEq1 c' c := by
  rcases c with ⟨k, n, f | f | f⟩ | o
  · obtain ⟨f2, rfl, h2⟩ := h.int
    exact pEq1.mkI (fun j hj => (h2 j hj).symm)
  · obtain ⟨f2, rfl, h2⟩ := h.long
    exact pEq1.mkL (fun j hj => (h2 j hj).symm)
  · rcases c' with ⟨k', n', g2 | g2 | g2⟩ | o' <;> exact h.elim
  · have e := h.obj
    subst e
    exact pEq1.mkO
def zOK (w : pW) : Bool := Nat.ble w.length 600000 && Nat.ble (pwsz w) 7302250
theorem zOK_ok {w : pW} (h : zOK w = true) : w.length ≤ 600000 ∧ pwsz w ≤ 7302250 := by
  unfold zOK at h
  rw [Bool.and_eq_true] at h
  exact ⟨Nat.le_of_ble_eq_true h.1, Nat.le_of_ble_eq_true h.2⟩
theorem lOweI_e {pA : Nat} {w w' : pW} {jx jm : Nat} {as : List Value} (H : pEqW w w') (h : lOweI pA w jx jm as) : lOweI pA w' jx jm as := by
  obtain ⟨v, w1, w2, r1, r2, z1, z2⟩ := h
  obtain ⟨w1', g1, H1⟩ := pRun_e H r1
  obtain ⟨w2', g2, H2⟩ := pRun_e H1 r2
  exact ⟨v, w1', w2', g1, g2, by rw [← H2.1]; exact z1, by rw [← H2.sz]; exact z2⟩
theorem lOweL_e {pA : Nat} {w w' : pW} {jx jm : Nat} {as : List Value} (H : pEqW w w') (h : lOweL pA w jx jm as) : lOweL pA w' jx jm as := by
  obtain ⟨v, w1, w2, r1, r2, z1, z2⟩ := h
  obtain ⟨w1', g1, H1⟩ := pRun_e H r1
  obtain ⟨w2', g2, H2⟩ := pRun_e H1 r2
  exact ⟨v, w1', w2', g1, g2, by rw [← H2.1]; exact z1, by rw [← H2.sz]; exact z2⟩
theorem lOweK_e {pA : Nat} {w w' : pW} {k : Nat} {a : Nat → Int32} (H : pEqW w w') (h : lOweK pA w k a) : lOweK pA w' k a := by
  unfold lOweK at h ⊢
  split
  all_goals first | exact lOweI_e H h | exact lOweL_e H h | trivial
theorem starts : ∃ wA w0, pRun 114 [.ref 0] [lCell 8 10] none wA ∧ pRun 186 [.ref wA.length] (wA ++ [lCell 9 19]) none w0 ∧ wA.length = 57 ∧ pEqW w0e w0 := by
  have hA := startA
  split at hA
  · rename_i wA h1
    have r1 : pRun 114 [.ref 0] [lCell 8 10] none wA := pGoX_ok oA_ok _ _ _ _ _ h1
    have e1 := pEqB_ok hA
    have h0 := start0
    split at h0
    · rename_i w h2
      have r2 : pRun 186 [.ref 57] (wAe ++ [lCell 9 19]) none w := pGoX_ok oC_ok _ _ _ _ _ h2
      have e2 := pEqB_ok h0
      have hl : wA.length = 57 := e1.1.symm
      have e3 : pEqW (wAe ++ [lCell 9 19]) (wA ++ [lCell 9 19]) := e1.app pEq1.mkO
      obtain ⟨w0, r3, e4⟩ := pRun_e e3 r2
      exact ⟨wA, w0, r1, by rw [hl]; exact r3, hl, e2.tr e4⟩
    · cases h0
  · cases hA
theorem paid_of (H : ∀ (k : Nat) (a : Nat → Int32), lOweK 57 w0e k a) : ∃ wA w0 : pW, lOwed wA w0 := by
  obtain ⟨wA, w0, r1, r2, hl, e⟩ := starts
  have z : zOK w0e = true := by decide +kernel
  obtain ⟨z1, z2⟩ := zOK_ok z
  refine ⟨wA, w0, r1, r2, by rw [← e.1]; exact z1, by rw [← e.sz]; exact z2, fun k a => ?_⟩
  rw [hl]
  exact lOweK_e e (H k a)
-- checks by the kernel
noncomputable def chkI (n : Nat) (jx jm : Nat) (as : List Value) : Bool := match pGoX oC n jx (0, lv_args 0 (.ref 0 :: as), [], w0e) with
  | some (some (.int v), w1) => (match pGoX oC n jm (0, lv_args 0 (.ref 57 :: as), [], w1) with
    | some (some (.int v'), w2) => decide (v = v') && zOK w2
    | _ => false)
  | _ => false
noncomputable def chkL (n : Nat) (jx jm : Nat) (as : List Value) : Bool := match pGoX oC n jx (0, lv_args 0 (.ref 0 :: as), [], w0e) with
  | some (some (.long v), w1) => (match pGoX oC n jm (0, lv_args 0 (.ref 57 :: as), [], w1) with
    | some (some (.long v'), w2) => decide (v = v') && zOK w2
    | _ => false)
  | _ => false
theorem chkI_ok {n jx jm : Nat} {as : List Value} (h : chkI n jx jm as = true) : lOweI 57 w0e jx jm as := by
  unfold chkI at h
  split at h
  · rename_i v w1 h1
    split at h
    · rename_i v' w2 h2
      rw [Bool.and_eq_true] at h
      have e := of_decide_eq_true h.1
      obtain ⟨z1, z2⟩ := zOK_ok h.2
      subst e
      exact ⟨v, w1, w2, pGoX_ok oC_ok _ _ _ _ _ h1, pGoX_ok oC_ok _ _ _ _ _ h2, z1, z2⟩
    · cases h
  · cases h
theorem chkL_ok {n jx jm : Nat} {as : List Value} (h : chkL n jx jm as = true) : lOweL 57 w0e jx jm as := by
  unfold chkL at h
  split at h
  · rename_i v w1 h1
    split at h
    · rename_i v' w2 h2
      rw [Bool.and_eq_true] at h
      have e := of_decide_eq_true h.1
      obtain ⟨z1, z2⟩ := zOK_ok h.2
      subst e
      exact ⟨v, w1, w2, pGoX_ok oC_ok _ _ _ _ _ h1, pGoX_ok oC_ok _ _ _ _ _ h2, z1, z2⟩
    · cases h
  · cases h
