/-! WORLDS OF THE PLAIN MACHINE AS THE KIT's WORLDS: place 0 (the law's script) lies at an address of its own, place k, 1 and on, at the address b + k. -/
/-- where a plain world lies: (b, a) -/
abbrev pBas : Type := { q : Nat × Nat // q.2 ≤ q.1 }
def pAdr (b : pBas) (k : Nat) : Nat := if k = 0 then b.1.2 else b.1.1 + k
def pAdS (b : pBas) (q : Nat) : Prop := b.1.1 + 1 ≤ q
def pSiz (b : pBas) (n h : Nat) : Prop := h = b.1.1 + n ∧ 1 ≤ n
theorem pAdr_pos (b : pBas) {k : Nat} (h : 1 ≤ k) : pAdr b k = b.1.1 + k := if_neg (by omega)
theorem pAdr_inj (b : pBas) {i j : Nat} (h : pAdr b i = pAdr b j) : i = j := by
  have := b.2
  unfold pAdr at h
  split at h <;> split at h <;> omega
theorem pAdS_of {b : pBas} {n h : Nat} (hs : pSiz b n h) (q : Nat) (hq : h ≤ q) : pAdS b q := by
  have h1 := hs.1
  have h2 := hs.2
  unfold pAdS
  omega
def pv (b : pBas) : Value → Value
  | .ref k => .ref (pAdr b k)
  | v => v
theorem pv_cat (b : pBas) (v : Value) : (pv b v).category = v.category := by cases v <;> rfl
def pA (b : pBas) (x : vp_A) : vp_A := match x with
  | (n, .inr (.inr (.inr (.inr f)))) => (n, .inr (.inr (.inr (.inr (fun j => (f j).map (fun k => pAdr b k))))))
  | x => x
theorem pA_sz (b : pBas) (x : vp_A) : (pA b x).1 = x.1 := by
  obtain ⟨n, f | f | f | f | f⟩ := x <;> rfl
def pcel (b : pBas) (cA : Nat → ClassId) (c : pCell) : va_E := match c with
  | .inl (k, x) => .inl (cA k, pA b x)
  | .inr (ci, fs) => .inr (ci, fs.map (pv b))
def pK6 : pCell → Bool
  | .inl (6, _) => true
  | _ => false
/-- the kit's world: all cells but the script -/
def pwv (b : pBas) (cA : Nat → ClassId) (w : pW) : va_W := (w.drop 1).mapIdx (fun k c => (b.1.1 + (k + 1), pcel b cA c))
def pw2 (b : pBas) (lv : pLv) : pLv := lv.map (fun q => (q.1, pv b q.2))
def pTys (cA : Nat → ClassId) : List (ClassId × FieldType) := [(cA 0, .int), (cA 1, .long), (cA 2, .boolean), (cA 3, .array .int), (cA 4, .array .long), (cA 5, .object "SquareMeshLaw$Sheet")]
def pcsz : pCell → Nat
  | .inl (_, x) => x.1
  | .inr (_, fs) => fs.length
def pwsz (w : pW) : Nat := (w.map pcsz).sum
theorem pwv_get (b : pBas) (cA : Nat → ClassId) (w : pW) (k : Nat) : (pwv b cA w)[k]? = (w[k + 1]?).map (fun c => (b.1.1 + (k + 1), pcel b cA c)) := by
  unfold pwv
  rw [List.getElem?_mapIdx, List.getElem?_drop, Nat.add_comm 1 k]
theorem pwv_at {b : pBas} {cA : Nat → ClassId} {w : pW} {k : Nat} {c : pCell} (h : w[k]? = some c) (hk : 1 ≤ k) : (pwv b cA w)[k - 1]? = some (pAdr b k, pcel b cA c) := by
  rw [pwv_get, Nat.sub_add_cancel hk, h, pAdr_pos b hk]; rfl
theorem pwv_len (b : pBas) (cA : Nat → ClassId) (w : pW) : (pwv b cA w).length = w.length - 1 := by unfold pwv; simp
theorem pwv_set (b : pBas) (cA : Nat → ClassId) (w : pW) (k : Nat) (c : pCell) (hk : 1 ≤ k) : (pwv b cA w).set (k - 1) (pAdr b k, pcel b cA c) = pwv b cA (w.set k c) := by
  apply List.ext_getElem?
  intro j
  rw [pwv_get]
  by_cases h : k - 1 = j
  · have e : k = j + 1 := by omega
    subst e
    rw [Nat.add_sub_cancel, List.getElem?_set, List.getElem?_set, if_pos rfl, if_pos rfl, pwv_len]
    by_cases g : j + 1 < w.length
    · rw [if_pos (show j < w.length - 1 by omega), if_pos g]
      show some (pAdr b (j + 1), pcel b cA c) = some (b.1.1 + (j + 1), pcel b cA c)
      rw [pAdr_pos b hk]
    · rw [if_neg (show ¬ j < w.length - 1 by omega), if_neg g]
      rfl
  · rw [List.getElem?_set_ne h, List.getElem?_set_ne (by omega), pwv_get]
theorem pwv_app (b : pBas) (cA : Nat → ClassId) (w : pW) (c : pCell) (hw : 1 ≤ w.length) : pwv b cA (w ++ [c]) = pwv b cA w ++ [(pAdr b w.length, pcel b cA c)] := by
  apply List.ext_getElem?
  intro j
  rw [pwv_get]
  rcases Nat.lt_or_ge j (w.length - 1) with h | h
  · rw [List.getElem?_append_left (show j + 1 < w.length by omega), List.getElem?_append_left (show j < (pwv b cA w).length by rw [pwv_len]; exact h), pwv_get]
  · rw [List.getElem?_append_right (show w.length ≤ j + 1 by omega), List.getElem?_append_right (show (pwv b cA w).length ≤ j by rw [pwv_len]; exact h), pwv_len]
    by_cases e : j + 1 = w.length
    · rw [show j + 1 - w.length = 0 by omega, show j - (w.length - 1) = 0 by omega]
      show some (b.1.1 + (j + 1), pcel b cA c) = some (pAdr b w.length, pcel b cA c)
      rw [pAdr_pos b hw, e]
    · rw [List.getElem?_eq_none (show [c].length ≤ j + 1 - w.length by rw [List.length_singleton]; omega), List.getElem?_eq_none (show [(pAdr b w.length, pcel b cA c)].length ≤ j - (w.length - 1) by rw [List.length_singleton]; omega)]
      rfl
theorem pwv_D (b : pBas) (cA : Nat → ClassId) (w : pW) : va_D (pAdS b) (pwv b cA w) := by
  refine ⟨fun i j x y hx hy hxy => ?_, fun k q hq => ?_⟩
  · rw [pwv_get] at hx hy
    cases hi : w[i + 1]? with
    | none => rw [hi] at hx; cases hx
    | some ci =>
      cases hj : w[j + 1]? with
      | none => rw [hj] at hy; cases hy
      | some cj =>
        rw [hi] at hx
        rw [hj] at hy
        cases hx
        cases hy
        have hxy : b.1.1 + (i + 1) = b.1.1 + (j + 1) := hxy
        omega
  · rw [pwv_get] at hq
    cases hi : w[k + 1]? with
    | none => rw [hi] at hq; cases hq
    | some ci =>
      rw [hi] at hq
      cases hq
      show b.1.1 + 1 ≤ b.1.1 + (k + 1)
      omega
theorem pwsz_set {w : pW} {k : Nat} {c c' : pCell} (h : w[k]? = some c) (hs : pcsz c' = pcsz c) : pwsz (w.set k c') = pwsz w := by
  unfold pwsz
  induction w generalizing k with
  | nil => rfl
  | cons a w ih =>
    cases k with
    | zero =>
      simp only [List.getElem?_cons_zero, Option.some.injEq] at h
      subst h
      simp [List.set, hs]
    | succ k =>
      simp only [List.getElem?_cons_succ] at h
      have := ih h
      simp only [List.map_set] at this
      simp [List.set, this]
theorem pwsz_app (w : pW) (c : pCell) : pwsz (w ++ [c]) = pwsz w + pcsz c := by
  unfold pwsz
  simp
theorem pGet_in {lv : pLv} {k : Nat} {v : Value} (h : pGet lv k = some v) : (k, v) ∈ lv := by
  induction lv with
  | nil => cases h
  | cons q l ih =>
    unfold pGet at h
    by_cases hq : Nat.beq q.1 k = true
    · rw [hq] at h
      simp only [cond_true, Option.some.injEq] at h
      have : q.1 = k := Nat.eq_of_beq_eq_true hq
      subst this
      subst h
      exact List.mem_cons_self
    · simp only [Bool.not_eq_true] at hq
      rw [hq] at h
      exact List.mem_cons_of_mem _ (ih h)
theorem pGet_ls {b : pBas} {nL k : Nat} {ls : Array Slot} {lv : pLv} {v : Value} (hl : lv_has ls nL (pw2 b lv)) (h : pGet lv k = some v) : ls[k]? = some (.val (pv b v)) :=
  hl.2.2 (k, pv b v) (List.mem_map.mpr ⟨(k, v), pGet_in h, rfl⟩)
theorem pGet_at {b : pBas} {k : Nat} {lv : pLv} {v : Value} (h : pGet lv k = some v) : ∃ j : Nat, (pw2 b lv)[j]? = some (k, pv b v) :=
  List.getElem?_of_mem (List.mem_map.mpr ⟨(k, v), pGet_in h, rfl⟩)
theorem pw2_set1 (b : pBas) (lv : pLv) (i : Nat) (v : Value) : (i, pv b v) :: (pw2 b lv).filter (fun q => !(q.1 == i) && !(q.1 + 1 == i && q.2.category == 2)) = pw2 b (pSet1 lv i v) := by
  unfold pw2 pSet1
  simp only [List.map_cons, List.filter_map]
  congr 2
  apply List.filter_congr
  intro q _
  simp only [Function.comp_apply, pv_cat]
theorem pw2_set2 (b : pBas) (lv : pLv) (i : Nat) (v : Value) : (i, pv b v) :: (pw2 b lv).filter (fun q => !(q.1 == i) && (!(q.1 == i + 1) && !(q.1 + 1 == i && q.2.category == 2))) = pw2 b (pSet2 lv i v) := by
  unfold pw2 pSet2
  simp only [List.map_cons, List.filter_map]
  congr 2
  apply List.filter_congr
  intro q _
  simp only [Function.comp_apply, pv_cat]
theorem pArgs_spec : ∀ (n : Nat) (as st as' st' : List Value), pArgs n as st = some (as', st') → ∃ xs : List Value, xs.length = n ∧ st = xs ++ st' ∧ as' = xs.reverse ++ as := by
  intro n
  induction n with
  | zero =>
    intro as st as' st' h
    unfold pArgs at h
    cases h
    exact ⟨[], rfl, rfl, rfl⟩
  | succ n ih =>
    intro as st as' st' h
    cases st with
    | nil => unfold pArgs at h; cases h
    | cons v st =>
      unfold pArgs at h
      obtain ⟨xs, h1, h2, h3⟩ := ih _ _ _ _ h
      refine ⟨v :: xs, by simp [h1], by simp [h2], by simp [h3]⟩
theorem pCat_sum (b : pBas) (st : List Value) : ((st.map (pv b)).map (fun v => v.category)).sum = pCat st := by
  induction st with
  | nil => rfl
  | cons v st ih =>
    simp only [List.map_cons, List.sum_cons, pCat]
    rw [ih, pv_cat]
theorem lv_args_pv (b : pBas) : ∀ (vs : List Value) (i : Nat), lv_args i (vs.map (pv b)) = pw2 b (lv_args i vs) := by
  intro vs
  induction vs with
  | nil => intro i; rfl
  | cons v vs ih =>
    intro i
    simp only [List.map_cons, lv_args, pv_cat, pw2]
    rw [ih]
    rfl
theorem pU_in (i ci : Nat) (q : vw_C) (h : vwCl[ci]? = some q) : ∀ w ∈ u_ws q.1 q.2.1 q.2.2, w ∈ pG0 := by
  intro w hw
  obtain ⟨⟨ps, hps⟩, hg⟩ := pU_all q (List.mem_of_getElem? h)
  refine List.mem_filter.mpr ⟨?_, List.all_eq_true.mp hg w hw⟩
  rw [hps] at hw
  obtain ⟨k, -, hk⟩ := List.mem_filterMap.mp hw
  exact pBl_in (List.mem_of_getElem? hk)
theorem pBle {a b : Nat} (h : Nat.ble a b = true) : a ≤ b := Nat.le_of_ble_eq_true h
theorem pBeq {a b : Nat} (h : Nat.beq a b = true) : a = b := Nat.eq_of_beq_eq_true h
theorem pInB_in {x : Int32} {n : Nat} (h : pInB x n = true) : vp_in x n := by
  unfold pInB at h
  rw [Bool.and_eq_true] at h
  intro hz
  rcases hz with hz | hz
  · have := h.1
    simp only [hz, decide_true, Bool.not_true] at this
    cases this
  · have := pBle h.2
    omega
