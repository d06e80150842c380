/-! THE REFERENCE LAYS NO TRIANGLE BUT THOSE OF A LIST THAT CLOSES. By hand. -/
/-- the other corners that follow p, q in a triangle -/
def isRot (t d : Tri) : Prop := t = d ∨ t = rot1 d ∨ t = rot1 (rot1 d)
theorem isRot_self {d : Tri} : isRot d d := .inl rfl
theorem hasE_of {t : Tri} {p q : Nat} (h : hasE t p q = true) : (t.1 = p ∧ t.2.1 = q) ∨ (t.2.1 = p ∧ t.2.2 = q) ∨ (t.2.2 = p ∧ t.1 = q) := by
  unfold hasE at h
  simp only [Bool.or_eq_true, Bool.and_eq_true, Nat.beq_eq] at h
  rcases h with (h | h) | h
  · exact .inl h
  · exact .inr (.inl h)
  · exact .inr (.inr h)
theorem hasE_mk {t : Tri} {p q : Nat} (h : (t.1 = p ∧ t.2.1 = q) ∨ (t.2.1 = p ∧ t.2.2 = q) ∨ (t.2.2 = p ∧ t.1 = q)) : hasE t p q = true := by
  unfold hasE
  simp only [Bool.or_eq_true, Bool.and_eq_true, Nat.beq_eq]
  rcases h with h | h | h
  · exact .inl (.inl h)
  · exact .inl (.inr h)
  · exact .inr h
theorem rot_hasE {t d : Tri} {p q : Nat} (h : isRot t d) : hasE t p q = hasE d p q := by
  rcases h with rfl | rfl | rfl
  · rfl
  · unfold hasE rot1
    simp only [Bool.or_assoc, Bool.or_comm, Bool.or_left_comm]
  · unfold hasE rot1
    simp only [Bool.or_assoc, Bool.or_comm, Bool.or_left_comm]
/-- a list of triangles that closes: each edge that isn't the border's has a triangle beyond it; the reference takes just these corners -/
def clo (f : Nat → Int32) (D : List Tri) : Prop := (∀ d, d ∈ D → in40 d) ∧ (∀ d p q, d ∈ D → hasE d p q = true → bordF f p q = false → ∃ d', d' ∈ D ∧ hasE d' q p = true) ∧ (∀ p q, p < 40 → q < 40 → inwF f p q = true → ∃ d, d ∈ D ∧ hasE d p q = true) ∧ (∀ d p q, d ∈ D → hasE d p q = true → isRot (p, q, cornF f p q) d)
def unu (D L : List Tri) : Nat := (D.filter (fun d => isFree L d.1 d.2.1)).length
theorem free_push {L : List Tri} {t : Tri} {p q : Nat} : isFree (L ++ [t]) p q = (!(hasE t p q) && isFree L p q) := by
  unfold isFree
  rw [lfN_push]
  cases hasE t p q <;> rfl
theorem free_all {L : List Tri} {p q : Nat} (h : isFree L p q = false) : ∃ t, t ∈ L ∧ hasE t p q = true := by
  unfold isFree at h
  cases e : lfN L p q with
  | none => rw [e] at h; cases h
  | some i =>
    obtain ⟨t, h1, h2⟩ := lfN_has e
    exact ⟨t, List.mem_of_getElem? h1, h2⟩
theorem free_none {L : List Tri} {p q : Nat} (h : isFree L p q = true) : ∀ t, t ∈ L → hasE t p q = false := by
  unfold isFree at h
  cases e : lfN L p q with
  | none => exact lfN_none e
  | some i => rw [e] at h; cases h
theorem filt_lt {α : Type} {P P' : α → Bool} (h : ∀ a, P' a = true → P a = true) {d : α} : ∀ {D : List α}, d ∈ D → P d = true → P' d = false → (D.filter P').length + 1 ≤ (D.filter P).length := by
  have le : ∀ D : List α, (D.filter P').length ≤ (D.filter P).length := by
    intro D
    induction D with
    | nil => exact Nat.le_refl _
    | cons a D ih =>
      rw [List.filter_cons, List.filter_cons]
      cases e : P' a with
      | true => rw [h a e]; simp; omega
      | false =>
        cases P a
        · simp; omega
        · simp; omega
  intro D
  induction D with
  | nil => intro h; cases h
  | cons a D ih =>
    intro hm h1 h2
    rw [List.filter_cons, List.filter_cons]
    rcases List.mem_cons.mp hm with rfl | hm
    · rw [h1, h2]
      have := le D
      simp
      omega
    · have := ih hm h1 h2
      cases e : P' a with
      | true => rw [h a e]; simp; omega
      | false =>
        cases P a
        · simp; omega
        · simp; omega
/-- what holds while triangles are laid -/
def inD (D L : List Tri) : Prop := (∀ t, t ∈ L → ∃ d, d ∈ D ∧ isRot t d) ∧ L.length + unu D L ≤ D.length
theorem inD_nil {D : List Tri} : inD D [] := by
  refine ⟨fun t h => absurd h List.not_mem_nil, ?_⟩
  have := List.length_filter_le (fun d : Tri => isFree [] d.1 d.2.1) D
  show 0 + (D.filter (fun d : Tri => isFree [] d.1 d.2.1)).length ≤ D.length
  omega
theorem rot_of3 {p q c : Nat} {d : Tri} (h : isRot (p, q, c) d) : isRot d (p, q, c) := by
  obtain ⟨a, b, e⟩ := d
  unfold isRot rot1 at *
  simp only [Prod.mk.injEq] at *
  omega
theorem rot_tr {t d u : Tri} (h1 : isRot t d) (h2 : isRot d u) : isRot t u := by
  obtain ⟨a, b, e⟩ := d
  obtain ⟨a1, b1, e1⟩ := t
  obtain ⟨a2, b2, e2⟩ := u
  unfold isRot rot1 at *
  simp only [Prod.mk.injEq] at *
  omega
theorem inD_push {f : Nat → Int32} {D L : List Tri} {p q : Nat} (hC : clo f D) (h : inD D L) (hf : isFree L p q = true) (hd : ∃ d, d ∈ D ∧ hasE d p q = true) : inD D (L ++ [(p, q, cornF f p q)]) := by
  obtain ⟨d, hd, he⟩ := hd
  have hr := hC.2.2.2 d p q hd he
  refine ⟨fun t ht => ?_, ?_⟩
  · rcases List.mem_append.mp ht with ht | ht
    · exact h.1 t ht
    · rw [List.mem_singleton] at ht
      subst ht
      exact ⟨d, hd, hr⟩
  · have hpq : hasE (p, q, cornF f p q) d.1 d.2.1 = true := by
      rw [rot_hasE hr]
      exact hasE_mk (.inl ⟨rfl, rfl⟩)
    have h1 : isFree L d.1 d.2.1 = true := by
      cases e : isFree L d.1 d.2.1 with
      | true => rfl
      | false =>
        exfalso
        obtain ⟨t, ht, hte⟩ := free_all e
        obtain ⟨d', hd', hr'⟩ := h.1 t ht
        have e1 := hC.2.2.2 d' d.1 d.2.1 hd' (by rw [← rot_hasE hr']; exact hte)
        have e2 := hC.2.2.2 d d.1 d.2.1 hd (hasE_mk (.inl ⟨rfl, rfl⟩))
        have e3 : isRot t d := rot_tr (rot_tr hr' (rot_of3 e1)) e2
        have := free_none hf t ht
        rw [rot_hasE e3, he] at this
        cases this
    have h2 : isFree (L ++ [(p, q, cornF f p q)]) d.1 d.2.1 = false := by
      rw [free_push, hpq]
      rfl
    have := filt_lt (P := fun d : Tri => isFree L d.1 d.2.1) (P' := fun d : Tri => isFree (L ++ [(p, q, cornF f p q)]) d.1 d.2.1) (fun a ha => by
      rw [free_push, Bool.and_eq_true] at ha
      exact ha.2) hd h1 h2
    have h3 := h.2
    unfold unu at h3 ⊢
    rw [List.length_append, List.length_singleton]
    omega
theorem inD_len {D L : List Tri} (h : inD D L) : L.length ≤ D.length := by
  have := h.2
  omega
theorem stp1_in {f : Nat → Int32} {D L : List Tri} {p q : Nat} (hC : clo f D) (hp : p < 40) (hq : q < 40) (h : inD D L) : inD D (stp1 f p L q) := by
  unfold stp1
  cases hh : (inwF f p q && isFree L p q) with
  | false => exact h
  | true =>
    rw [Bool.and_eq_true] at hh
    exact inD_push hC h hh.2 (hC.2.2.1 p q hp hq hh.1)
theorem lay1_in {f : Nat → Int32} {D : List Tri} (hC : clo f D) : ∀ (m p : Nat) (L : List Tri), p + m ≤ 40 → inD D L → inD D (lay1 f p m L) := by
  have row : ∀ (p : Nat), p < 40 → ∀ (m q : Nat) (L : List Tri), q + m ≤ 40 → inD D L → inD D ((List.range' q m).foldl (stp1 f p) L) := by
    intro p hp m
    induction m with
    | zero => intro q L _ h; exact h
    | succ m ih =>
      intro q L hq h
      rw [List.range'_succ, List.foldl_cons]
      exact ih (q + 1) _ (by omega) (stp1_in hC hp (by omega) h)
  intro m
  induction m with
  | zero => intro p L _ h; exact h
  | succ m ih =>
    intro p L hp h
    have e : lay1 f p (m + 1) L = lay1 f (p + 1) m ((List.range' 0 40).foldl (stp1 f p) L) := by
      unfold lay1
      rw [List.range'_succ (s := p) (n := m), List.foldl_cons]
    rw [e]
    exact ih (p + 1) _ (by omega) (row p (by omega) 40 0 L (by omega) h)
theorem stp2_in {f : Nat → Int32} {D L : List Tri} {i k : Nat} (hC : clo f D) (hk : k < 3) (h : inD D L) : inD D (stp2 f i L k) ∧ L.length ≤ (stp2 f i L k).length := by
  unfold stp2
  cases ht : L[i]? with
  | none => exact ⟨h, Nat.le_refl _⟩
  | some t =>
    dsimp only
    cases hh : (!(bordF f (tc t k) (tc t ((k + 1) % 3))) && isFree L (tc t ((k + 1) % 3)) (tc t k)) with
    | false => exact ⟨h, Nat.le_refl _⟩
    | true =>
      rw [Bool.and_eq_true, Bool.not_eq_true'] at hh
      obtain ⟨d, hd, hr⟩ := h.1 t (List.mem_of_getElem? ht)
      have he : hasE d (tc t k) (tc t ((k + 1) % 3)) = true := by
        rw [← rot_hasE hr]
        apply hasE_mk
        match k, hk with
        | 0, _ => exact .inl ⟨rfl, rfl⟩
        | 1, _ => exact .inr (.inl ⟨rfl, rfl⟩)
        | 2, _ => exact .inr (.inr ⟨rfl, rfl⟩)
      refine ⟨inD_push hC h hh.2 (hC.2.1 d _ _ hd he hh.1), ?_⟩
      rw [cond_true, List.length_append]
      omega
theorem lay2_in {f : Nat → Int32} {D : List Tri} (hC : clo f D) : ∀ (n i : Nat) (L : List Tri), inD D L → i ≤ L.length → D.length < n + i → ∃ L', lay2 f n i L = some L' ∧ inD D L' := by
  intro n
  induction n with
  | zero =>
    intro i L h hi hn
    have := inD_len h
    omega
  | succ n ih =>
    intro i L h hi hn
    show ∃ L', (bif Nat.ble (i + 1) L.length then lay2 f n (i + 1) (stp2 f i (stp2 f i (stp2 f i L 0) 1) 2) else some L) = some L' ∧ inD D L'
    cases e : Nat.ble (i + 1) L.length with
    | false => exact ⟨L, rfl, h⟩
    | true =>
      have hl := Nat.le_of_ble_eq_true e
      obtain ⟨a1, b1⟩ := stp2_in (i := i) (k := 0) hC (by decide) h
      obtain ⟨a2, b2⟩ := stp2_in (i := i) (k := 1) hC (by decide) a1
      obtain ⟨a3, b3⟩ := stp2_in (i := i) (k := 2) hC (by decide) a2
      exact ih (i + 1) _ a3 (by omega) (by omega)
theorem lay_in {f : Nat → Int32} {D : List Tri} (hC : clo f D) (h80 : D.length ≤ 80) : ∃ L, layF f = some L ∧ good L := by
  obtain ⟨L, h1, h2⟩ := lay2_in hC 82 0 (lay1 f 0 40 []) (lay1_in hC 40 0 [] (by omega) inD_nil) (Nat.zero_le _) (by omega)
  refine ⟨L, h1, fun t ht => ?_, Nat.le_trans (inD_len h2) h80⟩
  obtain ⟨d, hd, hr⟩ := h2.1 t ht
  have := hC.1 d hd
  unfold in40 at *
  rcases hr with rfl | rfl | rfl
  · exact this
  · exact ⟨this.2.1, this.2.2, this.1⟩
  · exact ⟨this.2.2, this.1, this.2.1⟩
