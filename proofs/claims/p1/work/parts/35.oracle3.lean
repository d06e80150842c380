/-! SHORT CUTS: the corner for an edge, the whole mesh; the reference read off a world. By program (wip/tools/mk35.py). -/
def oM_200 (as : List Value) (w : pW) : Option (Option Value × pW) := oR2 (fun f p q => .int (bI (aheadF f p q))) as w
theorem oM_200_ok {as : List Value} {w : pW} {r : Option Value} {w1 : pW} (h : oM_200 as w = some (r, w1)) : pRun 200 as w r w1 := oR2_ok (fun {_ _ _ _ _ _} ho hc hn hn2 {_ _} hp hq => r_isAhead ho hc hn hn2 hp hq) h
def oM_211 (as : List Value) (w : pW) : Option (Option Value × pW) := oR4 (fun f p q r s => .long (insByF f p q r s)) as w
theorem oM_211_ok {as : List Value} {w : pW} {r : Option Value} {w1 : pW} (h : oM_211 as w = some (r, w1)) : pRun 211 as w r w1 := oR4_ok (fun {_ _ _ _ _ _} ho hc hn hn2 {_ _ _ _} hp hq hr hs => r_insideBy ho hc hn hn2 hp hq hr hs) h
def oM_214 (as : List Value) (w : pW) : Option (Option Value × pW) := oR4 (fun f p q r s => .int (bI (betF f p q r s))) as w
theorem oM_214_ok {as : List Value} {w : pW} {r : Option Value} {w1 : pW} (h : oM_214 as w = some (r, w1)) : pRun 214 as w r w1 := oR4_ok (fun {_ _ _ _ _ _} ho hc hn hn2 {_ _ _ _} hp hq hr hs => r_isBetter ho hc hn hn2 hp hq hr hs) h
def oM_215 (as : List Value) (w : pW) : Option (Option Value × pW) := oR2 (fun f p q => .int (nI (cornF f p q))) as w
theorem oM_215_ok {as : List Value} {w : pW} {r : Option Value} {w1 : pW} (h : oM_215 as w = some (r, w1)) : pRun 215 as w r w1 := oR2_ok (fun {_ _ _ _ _ _} ho hc hn hn2 {_ _} hp hq => r_cornerFor ho hc hn hn2 hp hq) h
def rdA (w : pW) (a : Nat) : Nat → Int32 := match w[a]? with
  | some (.inl (_, _, .inl f)) => f
  | _ => fun _ => 0
def okA (w : pW) (a kd n : Nat) : Bool := match w[a]? with
  | some (.inl (k, m, .inl _)) => Nat.beq k kd && Nat.beq m n
  | _ => false
theorem okA_ok {w : pW} {a kd n : Nat} (h : okA w a kd n = true) : w[a]? = some (.inl (kd, n, .inl (rdA w a))) := by
  unfold okA at h
  split at h
  · rename_i k m f hw
    rw [Bool.and_eq_true] at h
    have e1 := pBeq h.1
    have e2 := pBeq h.2
    subst e1
    subst e2
    rw [hw]
    unfold rdA
    rw [hw]
  · cases h
def rdI (fs : List Value) (k : Nat) : Int32 := match fs[k]? with
  | some (.int x) => x
  | _ => 0
def rdF (w : pW) (o : Nat) : List Value := match w[o]? with
  | some (.inr (_, fs)) => fs
  | _ => []
def rdR (o : Nat) (w : pW) : RS := (rdA w (o + 1), rdA w (o + 2), rdA w (o + 3), rdA w (o + 4), rdA w (o + 5), rdA w (o + 6), rdA w (o + 7), rdA w (o + 8), rdA w (o + 9), rdA w (o + 10), rdA w (o + 11), rdA w (o + 12), rdA w (o + 13), rdA w (o + 14), rdI (rdF w o) 4, rdI (rdF w o) 13, rdI (rdF w o) 14, rdI (rdF w o) 16, rdI (rdF w o) 18)
def rdC (o : Nat) (w : pW) : Bool := Nat.beq w.length (o + 15) && (match w[o]? with
  | some (.inr (c, fs)) => Nat.beq c 9 && decide (fs = rO o (rdR o w))
  | _ => false) && okA w (o + 1) 0 37340 && okA w (o + 2) 0 37340 && okA w (o + 3) 0 240 && okA w (o + 4) 0 1600 && okA w (o + 5) 0 1778 && okA w (o + 6) 2 80 && okA w (o + 7) 0 40 && okA w (o + 8) 0 80 && okA w (o + 9) 0 80 && okA w (o + 10) 0 40 && okA w (o + 11) 0 40 && okA w (o + 12) 0 40 && okA w (o + 13) 0 80 && okA w (o + 14) 0 80
theorem rdC_ok {o : Nat} {w : pW} (h : rdC o w = true) : (w.take o).length = o ∧ w = rW (w.take o) (rdR o w) := by
  unfold rdC at h
  simp only [Bool.and_eq_true] at h
  obtain ⟨⟨⟨⟨⟨⟨⟨⟨⟨⟨⟨⟨⟨⟨⟨hl, ho⟩, h1⟩, h2⟩, h3⟩, h4⟩, h5⟩, h6⟩, h7⟩, h8⟩, h9⟩, h10⟩, h11⟩, h12⟩, h13⟩, h14⟩ := h
  have hl := pBeq hl
  have hlt : (w.take o).length = o := by rw [List.length_take]; omega
  have ho : w[o]? = some (.inr (9, rO o (rdR o w))) := by
    split at ho
    · rename_i c fs hw
      rw [Bool.and_eq_true] at ho
      have e1 := pBeq ho.1
      have e2 := of_decide_eq_true ho.2
      rw [hw, e1]
      exact congrArg (fun z => some (Sum.inr (9, z))) e2
    · cases ho
  refine ⟨hlt, ?_⟩
  apply List.ext_getElem?
  intro i
  unfold rW
  rcases Nat.lt_or_ge i o with z | z
  · rw [List.getElem?_append_left (by omega), List.getElem?_take, if_pos z]
  · obtain ⟨k, rfl⟩ : ∃ k, i = o + k := ⟨i - o, by omega⟩
    rw [List.getElem?_append_right (by omega), hlt, Nat.add_sub_cancel_left]
    match k with
    | 0 => exact ho
    | 1 => exact okA_ok h1
    | 2 => exact okA_ok h2
    | 3 => exact okA_ok h3
    | 4 => exact okA_ok h4
    | 5 => exact okA_ok h5
    | 6 => exact okA_ok h6
    | 7 => exact okA_ok h7
    | 8 => exact okA_ok h8
    | 9 => exact okA_ok h9
    | 10 => exact okA_ok h10
    | 11 => exact okA_ok h11
    | 12 => exact okA_ok h12
    | 13 => exact okA_ok h13
    | 14 => exact okA_ok h14
    | k + 15 =>
      rw [List.getElem?_eq_none (by omega)]
      rfl
def goodB (L : List Tri) : Bool := Nat.ble L.length 80 && L.all (fun t => Nat.ble (t.1 + 1) 40 && Nat.ble (t.2.1 + 1) 40 && Nat.ble (t.2.2 + 1) 40)
theorem goodB_ok {L : List Tri} (h : goodB L = true) : good L := by
  unfold goodB at h
  rw [Bool.and_eq_true, List.all_eq_true] at h
  refine ⟨fun t ht => ?_, Nat.le_of_ble_eq_true h.1⟩
  have := h.2 t ht
  simp only [Bool.and_eq_true] at this
  exact ⟨Nat.le_of_ble_eq_true this.1.1, Nat.le_of_ble_eq_true this.1.2, Nat.le_of_ble_eq_true this.2⟩
def oLay (as : List Value) (w : pW) : Option (Option Value × pW) := match as with
  | [.ref o] => bif rdC o w then (match layF (rdR o w).a with
    | some L => bif goodB L then some (none, rW (w.take o) (RO (rdR o w) (rdR o w).tr (flF (nI 4294967295) (rdR o w).lf 1600) L)) else none
    | none => none) else none
  | _ => none
theorem oLay_ok {as : List Value} {w : pW} {r : Option Value} {w1 : pW} (h : oLay as w = some (r, w1)) : pRun 219 as w r w1 := by
  unfold oLay at h
  split at h
  · rename_i o
    rcases pCond h with ⟨hc, h⟩ | ⟨_, h⟩
    · obtain ⟨hl, hw⟩ := rdC_ok hc
      split at h
      · rename_i M hM
        rcases pCond h with ⟨hg, h⟩ | ⟨_, h⟩
        · cases h
          have e := r_layMesh (A := w.take o) hM (goodB_ok hg)
          rw [hl, ← hw] at e
          exact e
        · cases h
      · cases h
    · cases h
  · cases h
def oC : pOr := fun j as w => bif Nat.beq j 200 then oM_200 as w else bif Nat.beq j 211 then oM_211 as w else bif Nat.beq j 214 then oM_214 as w else bif Nat.beq j 215 then oM_215 as w else bif Nat.beq j 219 then oLay as w else oB j as w
theorem oC_ok : pOrOK oC := by
  intro j as w r w1 h
  unfold oC at h
  rcases pCond h with ⟨hc, h⟩ | ⟨_, h⟩
  · rw [pBeq hc]; exact oM_200_ok h
  rcases pCond h with ⟨hc, h⟩ | ⟨_, h⟩
  · rw [pBeq hc]; exact oM_211_ok h
  rcases pCond h with ⟨hc, h⟩ | ⟨_, h⟩
  · rw [pBeq hc]; exact oM_214_ok h
  rcases pCond h with ⟨hc, h⟩ | ⟨_, h⟩
  · rw [pBeq hc]; exact oM_215_ok h
  rcases pCond h with ⟨hc, h⟩ | ⟨_, h⟩
  · rw [pBeq hc]; exact oLay_ok h
  exact oB_ok _ _ _ _ _ h
