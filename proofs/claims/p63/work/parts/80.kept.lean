/-! KEPT STATES: what the rows of the past hold. By hand. -/
/-- slot k of the two rows holds what was told of K, and its triangles -/
def keptAt (f : Nat → Int) (g : Nat → Int64) (k : Nat) (K : St) : Prop := (∀ j : Nat, j < 40 → f (361 * k + j) = K.xs j ∧ f (361 * k + 40 + j) = K.ys j ∧ f (361 * k + 80 + j) = K.hs j ∧ g (41 * k + j) = K.fx j) ∧ (∀ j : Nat, j < 8 → f (361 * k + 120 + j) = K.hx j ∧ f (361 * k + 128 + j) = K.hy j) ∧ g (41 * k + 40) = K.th ∧ f (361 * k + 136) = K.hn ∧ f (361 * k + 137) = K.g ∧ f (361 * k + 138) = K.tn ∧ ∀ j : Nat, j < 222 → f (361 * k + 139 + j) = K.co j
theorem keptAt_same {f f' : Nat → Int} {g g' : Nat → Int64} {k : Nat} {K : St} (h : keptAt f g k K) (hf : ∀ j : Nat, 361 * k ≤ j → j < 361 * (k + 1) → f' j = f j) (hg : ∀ j : Nat, 41 * k ≤ j → j < 41 * (k + 1) → g' j = g j) : keptAt f' g' k K := by
  obtain ⟨h1, h2, h3, h4, h5, h6, h7⟩ := h
  refine ⟨fun j hj => ?_, fun j hj => ?_, ?_, ?_, ?_, ?_, fun j hj => ?_⟩
  · rw [hf _ (by omega) (by omega), hf _ (by omega) (by omega), hf _ (by omega) (by omega), hg _ (by omega) (by omega)]
    exact h1 j hj
  · rw [hf _ (by omega) (by omega), hf _ (by omega) (by omega)]
    exact h2 j hj
  · rw [hg _ (by omega) (by omega)]; exact h3
  · rw [hf _ (by omega) (by omega)]; exact h4
  · rw [hf _ (by omega) (by omega)]; exact h5
  · rw [hf _ (by omega) (by omega)]; exact h6
  · rw [hf _ (by omega) (by omega)]; exact h7 j hj
theorem vL_at {f : Nat → Int64} {k : Nat} {v : Int64} : vp_updL f k v k = v := if_pos rfl
theorem vL_ne {f : Nat → Int64} {j k : Nat} {v : Int64} (h : j ≠ k) : vp_updL f k v j = f j := if_neg h
theorem kt_kept (S : St) (k : Nat) (f : Nat → Int) (g : Nat → Int64) : keptAt (S.kt k f) (S.kb k g) k S := by
  unfold keptAt St.kt St.kt1 St.kb
  refine ⟨fun j hj => ⟨?_, ?_, ?_, ?_⟩, fun j hj => ⟨?_, ?_⟩, ?_, ?_, ?_, ?_, fun j hj => ?_⟩
  · rw [zcpy_out (by omega), uZ_ne (by omega), uZ_ne (by omega), uZ_ne (by omega), zcpy_out (by omega), zcpy_out (by omega), zcpy_out (by omega), zcpy_out (by omega), zcpy_in (by omega) (by omega)]
    exact congrArg S.xs (by omega)
  · rw [zcpy_out (by omega), uZ_ne (by omega), uZ_ne (by omega), uZ_ne (by omega), zcpy_out (by omega), zcpy_out (by omega), zcpy_out (by omega), zcpy_in (by omega) (by omega)]
    exact congrArg S.ys (by omega)
  · rw [zcpy_out (by omega), uZ_ne (by omega), uZ_ne (by omega), uZ_ne (by omega), zcpy_out (by omega), zcpy_out (by omega), zcpy_in (by omega) (by omega)]
    exact congrArg S.hs (by omega)
  · rw [vL_ne (by omega), zcpy_in (by omega) (by omega)]
    exact congrArg S.fx (by omega)
  · rw [zcpy_out (by omega), uZ_ne (by omega), uZ_ne (by omega), uZ_ne (by omega), zcpy_out (by omega), zcpy_in (by omega) (by omega)]
    exact congrArg S.hx (by omega)
  · rw [zcpy_out (by omega), uZ_ne (by omega), uZ_ne (by omega), uZ_ne (by omega), zcpy_in (by omega) (by omega)]
    exact congrArg S.hy (by omega)
  · rw [vL_at]
  · rw [zcpy_out (by omega), uZ_ne (by omega), uZ_ne (by omega), uZ_at]
  · rw [zcpy_out (by omega), uZ_ne (by omega), uZ_at]
  · rw [zcpy_out (by omega), uZ_at]
  · rw [zcpy_in (by omega) (by omega)]
    exact congrArg S.co (by omega)
theorem kt_old {S : St} {k : Nat} {f : Nat → Int} {j : Nat} (hj : j < 361 * k ∨ 361 * (k + 1) ≤ j) : S.kt k f j = f j := by
  unfold St.kt St.kt1
  rw [zcpy_out (by omega), uZ_ne (by omega), uZ_ne (by omega), uZ_ne (by omega), zcpy_out (by omega), zcpy_out (by omega), zcpy_out (by omega), zcpy_out (by omega), zcpy_out (by omega)]
theorem kb_old {S : St} {k : Nat} {g : Nat → Int64} {j : Nat} (hj : j < 41 * k ∨ 41 * (k + 1) ≤ j) : S.kb k g j = g j := by
  unfold St.kb
  rw [vL_ne (by omega), zcpy_out (by omega)]
/-- the rows hold these states, the first in slot 0 -/
def keeps (f : Nat → Int) (g : Nat → Int64) (L : List St) : Prop := ∀ (k : Nat) (K : St), L[k]? = some K → keptAt f g k K
theorem keeps_top {f : Nat → Int} {g : Nat → Int64} {L : List St} (h : keeps f g L) (S : St) : keeps (S.kt L.length f) (S.kb L.length g) (L ++ [S]) := by
  intro k K hK
  by_cases hk : k < L.length
  · rw [List.getElem?_append_left hk] at hK
    exact keptAt_same (h k K hK) (fun j h1 h2 => kt_old (by omega)) (fun j h1 h2 => kb_old (by omega))
  · rw [List.getElem?_append_right (by omega)] at hK
    have hk0 : k - L.length = 0 := by
      have := (List.getElem?_eq_some_iff.mp hK).1
      simp at this
      omega
    rw [hk0] at hK
    simp at hK
    subst hK
    have : k = L.length := by omega
    subst this
    exact kt_kept _ _ _ _
theorem keeps_shift {f : Nat → Int} {g : Nat → Int64} {L : List St} (h : keeps f g L) (hl : L.length = 20) : keeps (zcpy f f 361 0 6859) (zcpy g g 41 0 779) L.tail := by
  intro k K hK
  have hlen : k < L.tail.length := (List.getElem?_eq_some_iff.mp hK).1
  rw [List.length_tail, hl] at hlen
  rw [List.getElem?_tail] at hK
  obtain ⟨h1, h2, h3, h4, h5, h6, h7⟩ := h (k + 1) K hK
  have zf : ∀ j : Nat, j < 6859 → zcpy f f 361 0 6859 j = f (361 + j) := fun j hj => by rw [zcpy_in (by omega) (by omega)]; congr 1
  have zg : ∀ j : Nat, j < 779 → zcpy g g 41 0 779 j = g (41 + j) := fun j hj => by rw [zcpy_in (by omega) (by omega)]; congr 1
  refine ⟨fun j hj => ?_, fun j hj => ?_, ?_, ?_, ?_, ?_, fun j hj => ?_⟩
  · rw [zf _ (by omega), zf _ (by omega), zf _ (by omega), zg _ (by omega), show 361 + (361 * k + j) = 361 * (k + 1) + j by omega, show 361 + (361 * k + 40 + j) = 361 * (k + 1) + 40 + j by omega, show 361 + (361 * k + 80 + j) = 361 * (k + 1) + 80 + j by omega, show 41 + (41 * k + j) = 41 * (k + 1) + j by omega]
    exact h1 j hj
  · rw [zf _ (by omega), zf _ (by omega), show 361 + (361 * k + 120 + j) = 361 * (k + 1) + 120 + j by omega, show 361 + (361 * k + 128 + j) = 361 * (k + 1) + 128 + j by omega]
    exact h2 j hj
  · rw [zg _ (by omega), show 41 + (41 * k + 40) = 41 * (k + 1) + 40 by omega]; exact h3
  · rw [zf _ (by omega), show 361 + (361 * k + 136) = 361 * (k + 1) + 136 by omega]; exact h4
  · rw [zf _ (by omega), show 361 + (361 * k + 137) = 361 * (k + 1) + 137 by omega]; exact h5
  · rw [zf _ (by omega), show 361 + (361 * k + 138) = 361 * (k + 1) + 138 by omega]; exact h6
  · rw [zf _ (by omega), show 361 + (361 * k + 139 + j) = 361 * (k + 1) + 139 + j by omega]; exact h7 j hj
/-- the past with one state more: twenty at most -/
def pshL (S : St) (L : List St) : List St := (if L.length < 20 then L else L.tail) ++ [S]
theorem pshL_len {S : St} {L : List St} (h : L.length ≤ 20) : (pshL S L).length = pshC L.length := by
  unfold pshL pshC
  split <;> simp <;> omega
theorem pshL_le {S : St} {L : List St} (h : L.length ≤ 20) : (pshL S L).length ≤ 20 := by
  unfold pshL
  split <;> simp <;> omega
theorem keeps_push {f : Nat → Int} {g : Nat → Int64} {L : List St} (h : keeps f g L) (hl : L.length ≤ 20) (S : St) : keeps (S.pshN L.length f) (S.pshB L.length g) (pshL S L) := by
  unfold St.pshN St.pshB pshL
  by_cases c : L.length < 20
  · rw [if_pos c, if_pos c, if_pos c]
    exact keeps_top h S
  · rw [if_neg c, if_neg c, if_neg c]
    have := keeps_top (keeps_shift h (by omega)) S
    rw [List.length_tail, show L.length - 1 = 19 by omega] at this
    exact this
theorem keeps_copy {f f' : Nat → Int} {g g' : Nat → Int64} {L : List St} (h : keeps f g L) : keeps (zcpy f f' 0 0 (361 * L.length)) (zcpy g g' 0 0 (41 * L.length)) L := by
  intro k K hK
  have hlen : k < L.length := (List.getElem?_eq_some_iff.mp hK).1
  refine keptAt_same (h k K hK) (fun j h1 h2 => ?_) (fun j h1 h2 => ?_)
  · rw [zcpy_in (by omega) (by omega)]; congr 1; omega
  · rw [zcpy_in (by omega) (by omega)]; congr 1; omega
theorem keeps_pre {f : Nat → Int} {g : Nat → Int64} {L M : List St} (h : keeps f g (L ++ M)) : keeps f g L := fun k K hK => h k K (by rw [List.getElem?_append_left (List.getElem?_eq_some_iff.mp hK).1]; exact hK)
