/-! THE REFERENCE'S ROWS OF TRIANGLES AS A LIST, the pure side of laying and ordering. By hand. -/
abbrev Tri : Type := Nat × Nat × Nat
def tc (t : Tri) (k : Nat) : Nat := match k with
  | 0 => t.1
  | 1 => t.2.1
  | _ => t.2.2
def gT (g0 : Nat → Int32) (L : List Tri) : Nat → Int32 := fun j => match L[j / 3]? with
  | some t => nI (tc t (j % 3))
  | none => g0 j
def hStep (h : Nat → Int32) (t : Tri) (i : Nat) : Nat → Int32 := upd (upd (upd h (40 * t.1 + t.2.1) (nI i)) (40 * t.2.1 + t.2.2) (nI i)) (40 * t.2.2 + t.1) (nI i)
def hT (h0 : Nat → Int32) (L : List Tri) : Nat → Int32 := L.zipIdx.foldl (fun h x => hStep h x.1 x.2) h0
theorem updN {f : Nat → Int32} {k j : Nat} {v : Int32} (h : j ≠ k) : upd f k v j = f j := by unfold upd; rw [if_neg h]
theorem updE {f : Nat → Int32} {k : Nat} {v : Int32} : upd f k v k = v := by unfold upd; rw [if_pos rfl]
theorem gT_nil {g0 : Nat → Int32} : gT g0 [] = g0 := by
  funext j
  unfold gT
  simp
theorem gT_at {g0 : Nat → Int32} {L : List Tri} {i c : Nat} {t : Tri} (h : L[i]? = some t) (hc : c < 3) : gT g0 L (3 * i + c) = nI (tc t c) := by
  unfold gT
  rw [show (3 * i + c) / 3 = i from by omega, h, show (3 * i + c) % 3 = c from by omega]
theorem gT_set {g0 : Nat → Int32} {L : List Tri} {i : Nat} {a b c : Nat} (h : i < L.length) : upd (upd (upd (gT g0 L) (3 * i) (nI a)) (3 * i + 1) (nI b)) (3 * i + 2) (nI c) = gT g0 (L.set i (a, b, c)) := by
  funext j
  by_cases e : j / 3 = i
  · have h2 : (L.set i (a, b, c))[j / 3]? = some (a, b, c) := by rw [e, List.getElem?_set, if_pos rfl, if_pos h]
    unfold gT
    rw [h2]
    have : j % 3 = 0 ∨ j % 3 = 1 ∨ j % 3 = 2 := by omega
    rcases this with z | z | z
    · rw [updN (by omega), updN (by omega), show j = 3 * i from by omega, updE, show 3 * i % 3 = 0 from by omega]; rfl
    · rw [updN (by omega), show j = 3 * i + 1 from by omega, updE, show (3 * i + 1) % 3 = 1 from by omega]; rfl
    · rw [show j = 3 * i + 2 from by omega, updE, show (3 * i + 2) % 3 = 2 from by omega]; rfl
  · rw [updN (by omega), updN (by omega), updN (by omega)]
    unfold gT
    rw [List.getElem?_set, if_neg (fun z => e z.symm)]
theorem gT_push {g0 : Nat → Int32} {L : List Tri} {a b c : Nat} : upd (upd (upd (gT g0 L) (3 * L.length) (nI a)) (3 * L.length + 1) (nI b)) (3 * L.length + 2) (nI c) = gT g0 (L ++ [(a, b, c)]) := by
  funext j
  by_cases e : j / 3 = L.length
  · have h2 : (L ++ [(a, b, c)])[j / 3]? = some (a, b, c) := by rw [e, List.getElem?_append_right (Nat.le_refl _), Nat.sub_self]; rfl
    unfold gT
    rw [h2]
    have : j % 3 = 0 ∨ j % 3 = 1 ∨ j % 3 = 2 := by omega
    rcases this with z | z | z
    · rw [updN (by omega), updN (by omega), show j = 3 * L.length from by omega, updE, show 3 * L.length % 3 = 0 from by omega]; rfl
    · rw [updN (by omega), show j = 3 * L.length + 1 from by omega, updE, show (3 * L.length + 1) % 3 = 1 from by omega]; rfl
    · rw [show j = 3 * L.length + 2 from by omega, updE, show (3 * L.length + 2) % 3 = 2 from by omega]; rfl
  · rw [updN (by omega), updN (by omega), updN (by omega)]
    unfold gT
    rcases Nat.lt_or_ge (j / 3) L.length with z | z
    · rw [List.getElem?_append_left z]
    · rw [List.getElem?_eq_none z, List.getElem?_eq_none (by simp; omega)]
/-- two neighbours change places, corner by corner -/
theorem gT_swap {g0 : Nat → Int32} {L : List Tri} {k : Nat} {t u : Tri} (ht : L[k + 1]? = some t) (hu : L[k]? = some u) :
    upd (upd (upd (upd (upd (upd (gT g0 L) (3 * (k + 1)) (nI u.1)) (3 * k) (nI t.1)) (3 * (k + 1) + 1) (nI u.2.1)) (3 * k + 1) (nI t.2.1)) (3 * (k + 1) + 2) (nI u.2.2)) (3 * k + 2) (nI t.2.2) = gT g0 ((L.set (k + 1) u).set k t) := by
  have l1 := (List.getElem?_eq_some_iff.mp ht).1
  have e1 := gT_set (g0 := g0) (L := L) (i := k + 1) (a := u.1) (b := u.2.1) (c := u.2.2) l1
  have e2 := gT_set (g0 := g0) (L := L.set (k + 1) u) (i := k) (a := t.1) (b := t.2.1) (c := t.2.2) (by rw [List.length_set]; omega)
  have e1 : upd (upd (upd (gT g0 L) (3 * (k + 1)) (nI u.1)) (3 * (k + 1) + 1) (nI u.2.1)) (3 * (k + 1) + 2) (nI u.2.2) = gT g0 (L.set (k + 1) u) := e1
  have e2 : upd (upd (upd (gT g0 (L.set (k + 1) u)) (3 * k) (nI t.1)) (3 * k + 1) (nI t.2.1)) (3 * k + 2) (nI t.2.2) = gT g0 ((L.set (k + 1) u).set k t) := e2
  rw [← e2, ← e1]
  funext j
  unfold upd
  repeat' split
  all_goals (first | rfl | (exfalso; omega))
theorem hT_nil {h0 : Nat → Int32} : hT h0 [] = h0 := rfl
theorem hT_push {h0 : Nat → Int32} {L : List Tri} {t : Tri} : hT h0 (L ++ [t]) = hStep (hT h0 L) t L.length := by
  unfold hT
  rw [List.zipIdx_append, List.foldl_append]
  simp
def hasE (t : Tri) (p q : Nat) : Bool := (Nat.beq t.1 p && Nat.beq t.2.1 q) || (Nat.beq t.2.1 p && Nat.beq t.2.2 q) || (Nat.beq t.2.2 p && Nat.beq t.1 q)
def in40 (t : Tri) : Prop := t.1 < 40 ∧ t.2.1 < 40 ∧ t.2.2 < 40
def good (L : List Tri) : Prop := (∀ t, t ∈ L → in40 t) ∧ L.length ≤ 80
/-- which triangle lies to the left of an edge, the last one laid -/
def lfN (L : List Tri) (p q : Nat) : Option Nat := L.zipIdx.foldl (fun o x => bif hasE x.1 p q then some x.2 else o) none
theorem lfN_push {L : List Tri} {t : Tri} {p q : Nat} : lfN (L ++ [t]) p q = bif hasE t p q then some L.length else lfN L p q := by
  unfold lfN
  rw [List.zipIdx_append, List.foldl_append]
  simp
theorem hStep_at {h : Nat → Int32} {t : Tri} {i p q : Nat} (ht : in40 t) (hp : p < 40) (hq : q < 40) : hStep h t i (40 * p + q) = bif hasE t p q then nI i else h (40 * p + q) := by
  obtain ⟨h1, h2, h3⟩ := ht
  unfold hStep hasE upd
  have n1 : ∀ a b : Nat, a < 40 → b < 40 → ((40 * p + q = 40 * a + b) ↔ (Nat.beq a p && Nat.beq b q) = true) := by
    intro a b ha hb
    rw [Bool.and_eq_true, Nat.beq_eq, Nat.beq_eq]
    omega
  by_cases a3 : (Nat.beq t.2.2 p && Nat.beq t.1 q) = true
  · rw [if_pos ((n1 _ _ h3 h1).mpr a3), a3, Bool.or_true]; rfl
  rw [if_neg (fun e => a3 ((n1 _ _ h3 h1).mp e))]
  by_cases a2 : (Nat.beq t.2.1 p && Nat.beq t.2.2 q) = true
  · rw [if_pos ((n1 _ _ h2 h3).mpr a2), a2, Bool.or_true, Bool.true_or]; rfl
  rw [if_neg (fun e => a2 ((n1 _ _ h2 h3).mp e))]
  by_cases a1 : (Nat.beq t.1 p && Nat.beq t.2.1 q) = true
  · rw [if_pos ((n1 _ _ h1 h2).mpr a1), a1, Bool.true_or, Bool.true_or]; rfl
  rw [if_neg (fun e => a1 ((n1 _ _ h1 h2).mp e)), eq_false_of_ne_true a1, eq_false_of_ne_true a2, eq_false_of_ne_true a3]
  rfl
def snocRec {α : Type} {P : List α → Prop} (h0 : P []) (h1 : ∀ L t, P L → P (L ++ [t])) : ∀ L, P L := by
  intro L
  have : ∀ M : List α, P M.reverse := by
    intro M
    induction M with
    | nil => exact h0
    | cons a M ih => rw [List.reverse_cons]; exact h1 _ _ ih
  have h := this L.reverse
  rw [List.reverse_reverse] at h
  exact h
theorem hT_at {h0 : Nat → Int32} {p q : Nat} (hp : p < 40) (hq : q < 40) : ∀ {L : List Tri}, (∀ t, t ∈ L → in40 t) → hT h0 L (40 * p + q) = match lfN L p q with
    | some i => nI i
    | none => h0 (40 * p + q) := by
  intro L
  refine snocRec (P := fun L => (∀ t, t ∈ L → in40 t) → hT h0 L (40 * p + q) = match lfN L p q with
    | some i => nI i
    | none => h0 (40 * p + q)) (fun _ => rfl) (fun L t ih hL => ?_) L
  have ih := ih (fun u hu => hL u (List.mem_append_left _ hu))
  rw [hT_push, hStep_at (hL t (List.mem_append_right _ (List.mem_singleton.mpr rfl))) hp hq, lfN_push, ih]
  cases hasE t p q <;> rfl
theorem lfN_lt {p q : Nat} : ∀ {L : List Tri} {i : Nat}, lfN L p q = some i → i < L.length := by
  intro L
  refine snocRec (P := fun L => ∀ {i : Nat}, lfN L p q = some i → i < L.length) (fun {i} h => by cases h) (fun L t ih i h => ?_) L
  rw [lfN_push] at h
  rw [List.length_append, List.length_singleton]
  cases e : hasE t p q
  · rw [e] at h
    have := ih h
    omega
  · rw [e] at h
    cases h
    omega
theorem lfN_has {p q : Nat} : ∀ {L : List Tri} {i : Nat}, lfN L p q = some i → ∃ t, L[i]? = some t ∧ hasE t p q = true := by
  intro L
  refine snocRec (P := fun L => ∀ {i : Nat}, lfN L p q = some i → ∃ t, L[i]? = some t ∧ hasE t p q = true) (fun {i} h => by cases h) (fun L t ih i h => ?_) L
  rw [lfN_push] at h
  cases e : hasE t p q
  · rw [e] at h
    obtain ⟨u, hu, hu2⟩ := ih h
    exact ⟨u, by rw [List.getElem?_append_left (lfN_lt h)]; exact hu, hu2⟩
  · rw [e] at h
    cases h
    exact ⟨t, by rw [List.getElem?_append_right (Nat.le_refl _), Nat.sub_self]; rfl, e⟩
theorem lfN_none {p q : Nat} : ∀ {L : List Tri}, lfN L p q = none → ∀ t, t ∈ L → hasE t p q = false := by
  intro L
  refine snocRec (P := fun L => lfN L p q = none → ∀ t, t ∈ L → hasE t p q = false) (fun _ t h => by cases h) (fun L t ih h u hu => ?_) L
  rw [lfN_push] at h
  cases e : hasE t p q
  · rw [e] at h
    rcases List.mem_append.mp hu with z | z
    · exact ih h u z
    · rw [List.mem_singleton.mp z]; exact e
  · rw [e] at h
    cases h
def isFree (L : List Tri) (p q : Nat) : Bool := (lfN L p q).isNone
/-- the state of the rows while triangles are laid -/
def RT (R : RS) (g0 h0 : Nat → Int32) (L : List Tri) : RS := N3 R (gT g0 L) (hT h0 L) (nI L.length)
theorem come_tr {g0 : Nat → Int32} {L : List Tri} {p q r : Nat} : upd (upd (upd (gT g0 L) (3 * L.length) (nI p)) (3 * L.length + 1) (nI q)) (3 * L.length + 2) (nI r) = gT g0 (L ++ [(p, q, r)]) := gT_push
theorem come_lf {h0 : Nat → Int32} {L : List Tri} {p q r : Nat} : upd (upd (upd (hT h0 L) (40 * p + q) (nI L.length)) (40 * q + r) (nI L.length)) (40 * r + p) (nI L.length) = hT h0 (L ++ [(p, q, r)]) := by
  rw [hT_push]
  rfl
def neg1 (h0 : Nat → Int32) : Prop := ∀ k, k < 1600 → h0 k = nI 4294967295
theorem hT_free {h0 : Nat → Int32} {L : List Tri} {p q : Nat} (hn : neg1 h0) (hL : good L) (hp : p < 40) (hq : q < 40) (h : isFree L p q = true) : hT h0 L (40 * p + q) = nI 4294967295 := by
  rw [hT_at hp hq hL.1]
  unfold isFree at h
  cases e : lfN L p q with
  | none => exact hn _ (by omega)
  | some i => rw [e] at h; cases h
theorem hT_nfree {h0 : Nat → Int32} {L : List Tri} {p q : Nat} (hL : good L) (hp : p < 40) (hq : q < 40) (h : isFree L p q = false) : ¬ hT h0 L (40 * p + q) = nI 4294967295 := by
  rw [hT_at hp hq hL.1]
  unfold isFree at h
  cases e : lfN L p q with
  | none => rw [e] at h; cases h
  | some i =>
    have := lfN_lt e
    have := hL.2
    exact nI_none (by omega)
-- laying
def inwF (f : Nat → Int32) (p q : Nat) : Bool := decide (fxF f p q = nI 2) && !(decide (sideF f p q (nI 0) (nI 0) ≤ 0))
def bordF (f : Nat → Int32) (p q : Nat) : Bool := decide (fxF f p q = nI 2)
def stp1 (f : Nat → Int32) (p : Nat) (L : List Tri) (q : Nat) : List Tri := bif inwF f p q && isFree L p q then L ++ [(p, q, cornF f p q)] else L
def lay1 (f : Nat → Int32) (p m : Nat) (L : List Tri) : List Tri := (List.range' p m).foldl (fun L p => (List.range' 0 40).foldl (stp1 f p) L) L
def stp2 (f : Nat → Int32) (i : Nat) (L : List Tri) (k : Nat) : List Tri := match L[i]? with
  | some t => bif !(bordF f (tc t k) (tc t ((k + 1) % 3))) && isFree L (tc t ((k + 1) % 3)) (tc t k) then L ++ [(tc t ((k + 1) % 3), tc t k, cornF f (tc t ((k + 1) % 3)) (tc t k))] else L
  | none => L
def lay2 (f : Nat → Int32) : Nat → Nat → List Tri → Option (List Tri)
  | 0, _, _ => none
  | n + 1, i, L => bif Nat.ble (i + 1) L.length then lay2 f n (i + 1) (stp2 f i (stp2 f i (stp2 f i L 0) 1) 2) else some L
def layF (f : Nat → Int32) : Option (List Tri) := lay2 f 82 0 (lay1 f 0 40 [])
theorem good_pre {L M : List Tri} (h : L <+: M) (hM : good M) : good L := ⟨fun t ht => hM.1 t (h.subset ht), Nat.le_trans h.length_le hM.2⟩
theorem stp1_pre {f : Nat → Int32} {p q : Nat} {L : List Tri} : L <+: stp1 f p L q := by
  unfold stp1
  cases inwF f p q && isFree L p q
  · exact List.prefix_refl _
  · exact List.prefix_append _ _
theorem fold_pre {α : Type} {s : List Tri → α → List Tri} (hs : ∀ L a, L <+: s L a) : ∀ (l : List α) (L : List Tri), L <+: l.foldl s L := by
  intro l
  induction l with
  | nil => intro L; exact List.prefix_refl _
  | cons a l ih => intro L; exact (hs L a).trans (ih _)
theorem lay1_pre {f : Nat → Int32} {p m : Nat} {L : List Tri} : L <+: lay1 f p m L := fold_pre (fun L p => fold_pre (fun L q => stp1_pre) _ _) _ _
theorem stp2_pre {f : Nat → Int32} {i k : Nat} {L : List Tri} : L <+: stp2 f i L k := by
  unfold stp2
  split
  · rename_i t _
    cases !(bordF f (tc t k) (tc t ((k + 1) % 3))) && isFree L (tc t ((k + 1) % 3)) (tc t k)
    · exact List.prefix_refl _
    · exact List.prefix_append _ _
  · exact List.prefix_refl _
theorem lay2_pre {f : Nat → Int32} : ∀ {n i : Nat} {L M : List Tri}, lay2 f n i L = some M → L <+: M := by
  intro n
  induction n with
  | zero => intro i L M h; cases h
  | succ n ih =>
    intro i L M h
    have h : (bif Nat.ble (i + 1) L.length then lay2 f n (i + 1) (stp2 f i (stp2 f i (stp2 f i L 0) 1) 2) else some L) = some M := h
    cases e : Nat.ble (i + 1) L.length
    · rw [e] at h
      cases h
      exact List.prefix_refl _
    · rw [e] at h
      exact (stp2_pre.trans (stp2_pre.trans stp2_pre)).trans (ih h)
-- ordering
def okT (t : Tri) : Bool := Nat.ble t.1 t.2.1 && Nat.ble t.1 t.2.2
def rot1 (t : Tri) : Tri := (t.2.1, t.2.2, t.1)
def rotT (t : Tri) : Tri := bif okT t then t else bif okT (rot1 t) then rot1 t else rot1 (rot1 t)
def codeT (t : Tri) : Nat := (40 * t.1 + t.2.1) * 40 + t.2.2
def t000 : Tri := (0, 0, 0)
def swapL (L : List Tri) (k : Nat) : List Tri := (L.set (k + 1) (L.getD k t000)).set k (L.getD (k + 1) t000)
def sinkL : Nat → List Tri → List Tri
  | 0, L => L
  | k + 1, L => bif Nat.ble (codeT (L.getD (k + 1) t000) + 1) (codeT (L.getD k t000)) then sinkL k (swapL L k) else L
def ordS (L : List Tri) (i : Nat) : List Tri := sinkL i (L.set i (rotT (L.getD i t000)))
def ordL (L : List Tri) : List Tri := (List.range' 0 L.length).foldl ordS L
theorem rotT_ok (t : Tri) (h1 : okT t = false) (h2 : okT (rot1 t) = false) : okT (rot1 (rot1 t)) = true := by
  obtain ⟨a, b, c⟩ := t
  simp only [okT, rot1, Bool.and_eq_false_iff, Bool.and_eq_true, Nat.ble_eq, ← Bool.not_eq_true] at *
  omega
theorem rot1_in {t : Tri} (h : in40 t) : in40 (rot1 t) := ⟨h.2.1, h.2.2, h.1⟩
theorem rotT_in {t : Tri} (h : in40 t) : in40 (rotT t) := by
  unfold rotT
  cases okT t
  · cases okT (rot1 t)
    · exact rot1_in (rot1_in h)
    · exact rot1_in h
  · exact h
theorem good_set {L : List Tri} {i : Nat} {t : Tri} (h : good L) (ht : in40 t) : good (L.set i t) := by
  refine ⟨fun u hu => ?_, by rw [List.length_set]; exact h.2⟩
  rcases List.mem_or_eq_of_mem_set hu with z | z
  · exact h.1 u z
  · rw [z]; exact ht
theorem good_getD {L : List Tri} {i : Nat} (h : good L) : in40 (L.getD i t000) := by
  rw [List.getD_eq_getElem?_getD]
  cases e : L[i]? with
  | none => exact ⟨by decide, by decide, by decide⟩
  | some t => exact h.1 t (List.mem_of_getElem? e)
theorem swapL_len {L : List Tri} {k : Nat} : (swapL L k).length = L.length := by unfold swapL; rw [List.length_set, List.length_set]
theorem good_swap {L : List Tri} {k : Nat} (h : good L) : good (swapL L k) := good_set (good_set h (good_getD h)) (good_getD h)
theorem sinkL_len : ∀ {k : Nat} {L : List Tri}, (sinkL k L).length = L.length := by
  intro k
  induction k with
  | zero => intro L; rfl
  | succ k ih =>
    intro L
    unfold sinkL
    cases Nat.ble (codeT (L.getD (k + 1) t000) + 1) (codeT (L.getD k t000))
    · rfl
    · exact ih.trans swapL_len
theorem good_sink : ∀ {k : Nat} {L : List Tri}, good L → good (sinkL k L) := by
  intro k
  induction k with
  | zero => intro L h; exact h
  | succ k ih =>
    intro L h
    unfold sinkL
    cases Nat.ble (codeT (L.getD (k + 1) t000) + 1) (codeT (L.getD k t000))
    · exact h
    · exact ih (good_swap h)
theorem ordS_len {L : List Tri} {i : Nat} : (ordS L i).length = L.length := by unfold ordS; rw [sinkL_len, List.length_set]
theorem good_ordS {L : List Tri} {i : Nat} (h : good L) : good (ordS L i) := good_sink (good_set h (rotT_in (good_getD h)))
theorem getD_of {L : List Tri} {i : Nat} (h : i < L.length) : L[i]? = some (L.getD i t000) := by
  rw [List.getD_eq_getElem?_getD, List.getElem?_eq_getElem h]
  rfl
