/-! WHAT A CALL LEAVES ALONE: an object's cells are 57 in a row; all others are as they were. By hand. -/
theorem OB_split {pre post : pW} {b : Nat} {S : St} {L M : List St} {K : St} {w : pW} (h : OB pre post b S L M K w) : ∃ x : pW, x.length = 57 ∧ w = pre ++ (x ++ post) ∧ pwsz x = pwsz (nP 0) := by
  obtain ⟨hS, hLo, hLl, hMo, hMl, pn, pb, rn, rb, cl, kp, kr, rfl⟩ := h
  refine ⟨oC (b + 1) ++ (mB (b + 1) S ++ oP (b + 1) pn pb (L.length : Int) rn rb (M.length : Int) cl), rfl, ?_, rfl⟩
  simp only [List.append_assoc]
theorem OB_frame {pre post : pW} {b : Nat} (hb : pre.length = b) {S S' : St} {L L' M M' : List St} {K K' : St} {w w' : pW} (h1 : OB pre post b S L M K w) (h2 : OB pre post b S' L' M' K' w') : w'.length = w.length ∧ pwsz w' = pwsz w ∧ ∀ i : Nat, i < b ∨ b + 57 ≤ i → w'[i]? = w[i]? := by
  obtain ⟨x, hx, rfl, sx⟩ := OB_split h1
  obtain ⟨y, hy, rfl, sy⟩ := OB_split h2
  refine ⟨by simp only [List.length_append, hx, hy], ?_, fun i hi => ?_⟩
  · unfold pwsz at sx sy ⊢
    simp only [List.map_append, List.sum_append, sx, sy]
  · rcases hi with z | z
    · rw [List.getElem?_append_left (by omega), List.getElem?_append_left (by omega)]
    · rw [List.getElem?_append_right (by omega), List.getElem?_append_right (by omega), List.getElem?_append_right (by omega), List.getElem?_append_right (by omega), hx, hy]
/-- a cell that is no cell of the object stands when the object has changed -/
theorem OB_keep {pre post : pW} {b : Nat} (hb : pre.length = b) {S S' : St} {L L' M M' : List St} {K K' : St} {w w' : pW} (h1 : OB pre post b S L M K w) (h2 : OB pre post b S' L' M' K' w') {i : Nat} {c : pCell} (hi : i < b ∨ b + 57 ≤ i) (h : w[i]? = some c) : w'[i]? = some c := ((OB_frame hb h1 h2).2.2 i hi).trans h
theorem OB_agr {pre post : pW} {b : Nat} (hb : pre.length = b) {S S' : St} {L L' M M' : List St} {K K' : St} {w w' : pW} (h1 : OB pre post b S L M K w) (h2 : OB pre post b S' L' M' K' w') : agr (fun i => b ≤ i ∧ i < b + 57) w w' := by
  obtain ⟨a1, -, a3⟩ := OB_frame hb h1 h2
  exact ⟨by omega, fun i _ hn => a3 i (by omega)⟩
