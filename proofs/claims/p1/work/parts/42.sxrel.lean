/-! THE MACHINE FOR THE KERNEL: each leaf does what the plain machine does. By program (wip/tools/mk42.py). -/
def yT (ρ : Nat → Int) : List zV → List Value → Prop
  | [], [] => True
  | v :: S, c :: st => yV ρ v c ∧ yT ρ S st
  | _, _ => False
def yL (ρ : Nat → Int) (L : List zV) (lv : pLv) : Prop := ∀ (i : Nat) (v : zV), L[i]? = some v → v = zVd ∨ ∃ c, pGet lv i = some c ∧ yV ρ v c
def yC (ρ : Nat → Int) (x : zC) (o : Option pCell) : Prop := match x with
  | .inl (k, n, t) => k ≤ 2 → n < 2147483648 ∧ (k = 1 → ∃ f, o = some (.inl (1, n, .inr (.inl f))) ∧ ∀ j, j < n → yV ρ (t.get j) (.long (f j))) ∧ (¬ k = 1 → ∃ f, o = some (.inl (k, n, .inl f)) ∧ ∀ j, j < n → yV ρ (t.get j) (.int (f j)))
  | .inr (ci, fs) => ∃ gs, o = some (.inr (ci, gs)) ∧ yT ρ fs gs
def yW (ρ : Nat → Int) (W : zW) (w : pW) : Prop := okD ρ W.1 ∧ w.length = W.2.1 ∧ ∀ k, yC ρ (W.2.2.get k) w[k]?
def yO (ρ : Nat → Int) (r : Option zV) (c : Option Value) : Prop := match r, c with
  | some v, some x => yV ρ v x
  | none, none => True
  | _, _ => False
theorem yT_c {ρ : Nat → Int} {v : zV} {S : List zV} {st : List Value} (h : yT ρ (v :: S) st) : ∃ c st', st = c :: st' ∧ yV ρ v c ∧ yT ρ S st' := by
  cases st with
  | nil => exact h.elim
  | cons c st => exact ⟨c, st, rfl, h.1, h.2⟩
theorem yT_n {ρ : Nat → Int} {st : List Value} (h : yT ρ [] st) : st = [] := by
  cases st with
  | nil => rfl
  | cons c st => exact h.elim
-- what a fold that answers something came through
theorem zB {c : Bool} {x y : zR} {v : Option zV × zW} (h : Bool.rec (motive := fun _ => zR) x y c = some v) : (c = false ∧ x = some v) ∨ (c = true ∧ y = some v) := by
  cases c
  · exact .inl ⟨rfl, h⟩
  · exact .inr ⟨rfl, h⟩
theorem zL0 {α : Type} {l : List α} {f : α → List α → zR} {v : Option zV × zW} (h : List.rec (motive := fun _ => zR) none (fun a t _ => f a t) l = some v) : ∃ a t, l = a :: t ∧ f a t = some v := by
  cases l with
  | nil => cases h
  | cons a t => exact ⟨a, t, rfl, h⟩
theorem zL1 {α : Type} {l : List α} {z : zR} {v : Option zV × zW} (h : List.rec (motive := fun _ => zR) z (fun _ _ _ => none) l = some v) : l = [] ∧ z = some v := by
  cases l with
  | nil => exact ⟨rfl, h⟩
  | cons a t => cases h
theorem zS2 {α β : Type} {x : α ⊕ β} {f : α → zR} {g : β → zR} {v : Option zV × zW} (h : Sum.rec (motive := fun _ => zR) f g x = some v) : (∃ a, x = .inl a ∧ f a = some v) ∨ (∃ b, x = .inr b ∧ g b = some v) := by
  cases x with
  | inl a => exact .inl ⟨a, rfl, h⟩
  | inr b => exact .inr ⟨b, rfl, h⟩
theorem zO0 {α : Type} {x : Option α} {f : α → zR} {v : Option zV × zW} (h : Option.rec (motive := fun _ => zR) none (fun a => f a) x = some v) : ∃ a, x = some a ∧ f a = some v := by
  cases x with
  | none => cases h
  | some a => exact ⟨a, rfl, h⟩
theorem zR0 {x : zV} {f : Nat → zR} {v : Option zV × zW} (h : Sum.rec (motive := fun _ => zR) (fun _ => none) (fun z => Sum.rec (motive := fun _ => zR) (fun a => f a) (fun _ => none) z) x = some v) : ∃ a, x = .inr (.inl a) ∧ f a = some v := by
  rcases x with n | a | z
  · cases h
  · exact ⟨a, rfl, h⟩
  · cases h
theorem zI0 {x : zV} {f : Nat → zR} {v : Option zV × zW} (h : Sum.rec (motive := fun _ => zR) (fun a => f a) (fun _ => none) x = some v) : ∃ a, x = .inl a ∧ f a = some v := by
  rcases x with n | z
  · exact ⟨n, rfl, h⟩
  · cases h
theorem zBt {c : Bool} {x : zR} {v : Option zV × zW} (h : Bool.rec (motive := fun _ => zR) none x c = some v) : c = true ∧ x = some v := by
  cases c
  · cases h
  · exact ⟨rfl, h⟩
theorem zBf {c : Bool} {x : zR} {v : Option zV × zW} (h : Bool.rec (motive := fun _ => zR) x none c = some v) : c = false ∧ x = some v := by
  cases c
  · exact ⟨rfl, h⟩
  · cases h
theorem zC0 {x : zC} {ci : Nat} {f : Nat × List zV → zR} {v : Option zV × zW} (h : Sum.rec (motive := fun _ => zR) (fun _ => none) (fun o => Bool.rec (motive := fun _ => zR) none (f o) (Nat.beq o.1 ci)) x = some v) : ∃ fs, x = .inr (ci, fs) ∧ f (ci, fs) = some v := by
  rcases x with z | ⟨c, fs⟩
  · cases h
  · obtain ⟨h1, h2⟩ := zBt h
    have e : c = ci := pBeq h1
    subst e
    exact ⟨fs, rfl, h2⟩
theorem zA0 {x : zC} {kd : Nat} {f : Nat × Nat × Lean.RArray zV → zR} {v : Option zV × zW} (h : Sum.rec (motive := fun _ => zR) (fun o => Bool.rec (motive := fun _ => zR) none (f o) (Nat.beq o.1 kd)) (fun _ => none) x = some v) : ∃ n t, x = .inl (kd, n, t) ∧ f (kd, n, t) = some v := by
  rcases x with ⟨c, n, t⟩ | z
  · obtain ⟨h1, h2⟩ := zBt h
    have e : c = kd := pBeq h1
    subst e
    exact ⟨n, t, rfl, h2⟩
  · cases h
-- tests
theorem zTi_ok {v : zV} {r : zR} {x : Option zV × zW} (h : zTi v r = some x) : r = some x ∧ ∀ ρ c, yV ρ v c → ∃ i, c = .int i := by
  rcases v with n | a | n | p | p | u
  · exact ⟨h, fun ρ c hv => ⟨_, hv.2⟩⟩
  · cases h
  · cases h
  · exact ⟨h, fun ρ c hv => ⟨_, hv⟩⟩
  · cases h
  · cases h
theorem zTr_ok {v : zV} {r : zR} {x : Option zV × zW} (h : zTr v r = some x) : r = some x ∧ ∀ ρ c, yV ρ v c → ∃ i, c = .ref i := by
  rcases v with n | a | n | p | p | u
  · cases h
  · exact ⟨h, fun ρ c hv => ⟨_, hv⟩⟩
  · cases h
  · cases h
  · cases h
  · cases h
theorem zTl_ok {v : zV} {r : zR} {x : Option zV × zW} (h : zTl v r = some x) : r = some x ∧ ∀ ρ c, yV ρ v c → ∃ i, c = .long i := by
  rcases v with n | a | n | p | p | u
  · cases h
  · cases h
  · exact ⟨h, fun ρ c hv => ⟨_, hv.2⟩⟩
  · cases h
  · exact ⟨h, fun ρ c hv => ⟨_, hv⟩⟩
  · cases h
theorem zLong1 {v : zV} {y : zR} {x : Option zV × zW} (h : zLong v none y = some x) : y = some x ∧ ∀ ρ c, yV ρ v c → c.category = 1 := by
  rcases v with n | a | n | p | p | u
  · exact ⟨h, fun ρ c hv => by rw [hv.2]; rfl⟩
  · exact ⟨h, fun ρ c hv => by rw [show c = .ref a from hv]; rfl⟩
  · cases h
  · exact ⟨h, fun ρ c hv => by rw [show c = .int _ from hv]; rfl⟩
  · cases h
  · cases h
theorem zLong_ok {v : zV} {z y : zR} {x : Option zV × zW} (h : zLong v z y = some x) : (z = some x ∧ ∀ ρ c, yV ρ v c → c.category = 2) ∨ (y = some x ∧ ∀ ρ c, yV ρ v c → c.category = 1) := by
  rcases v with n | a | n | p | p | u
  · exact .inr ⟨h, fun ρ c hv => by rw [hv.2]; rfl⟩
  · exact .inr ⟨h, fun ρ c hv => by rw [show c = .ref a from hv]; rfl⟩
  · exact .inl ⟨h, fun ρ c hv => by rw [hv.2]; rfl⟩
  · exact .inr ⟨h, fun ρ c hv => by rw [show c = .int _ from hv]; rfl⟩
  · exact .inl ⟨h, fun ρ c hv => by rw [show c = .long _ from hv]; rfl⟩
  · cases h
-- locals
theorem zGetK_ok {i : Nat} : ∀ {L : List zV} {c : zV → zR} {x : Option zV × zW}, zGetK i L c = some x → ∃ v, L[i]? = some v ∧ c v = some x := by
  induction i with
  | zero => intro L c x h; cases L with
    | nil => cases h
    | cons a t => exact ⟨a, rfl, h⟩
  | succ i ih => intro L c x h; cases L with
    | nil => cases h
    | cons a t => exact ih (L := t) h
theorem zKill_ok {a : zV} {f : zV → zR} {x : Option zV × zW} (h : zKill a f = some x) : ∃ b, f b = some x ∧ (b = zVd ∨ (b = a ∧ ∀ ρ c, yV ρ a c → c.category = 1)) := by
  rcases a with n | a | n | p | p | u
  · exact ⟨_, h, .inr ⟨rfl, fun ρ c hv => by rw [hv.2]; rfl⟩⟩
  · exact ⟨_, h, .inr ⟨rfl, fun ρ c hv => by rw [show c = .ref a from hv]; rfl⟩⟩
  · exact ⟨_, h, .inl rfl⟩
  · exact ⟨_, h, .inr ⟨rfl, fun ρ c hv => by rw [show c = .int _ from hv]; rfl⟩⟩
  · exact ⟨_, h, .inl rfl⟩
  · exact ⟨_, h, .inl rfl⟩
/-- what is at place j of the locals behind a store at i of what takes s places -/
def zSt (i s : Nat) (v : zV) (L L' : List zV) : Prop := ∀ (j : Nat) (u : zV), L'[j]? = some u → u = zVd ∨ (j = i ∧ u = v) ∨ (L[j]? = some u ∧ ¬ j = i ∧ ¬ (s = 2 ∧ j = i + 1) ∧ (j + 1 = i → ∀ ρ c, yV ρ u c → c.category = 1))
theorem zSet1_ok {v : zV} {i : Nat} : ∀ {L : List zV} {c : List zV → zR} {x : Option zV × zW}, zSet1 i v L c = some x → ∃ L', c L' = some x ∧ zSt i 1 v L L' := by
  induction i with
  | zero => intro L c x h; cases L with
    | nil => exact ⟨[], h, fun j u hj => by cases hj⟩
    | cons a t =>
      refine ⟨_, h, fun j u hj => ?_⟩
      cases j with
      | zero =>
        cases hj
        exact .inr (.inl ⟨rfl, rfl⟩)
      | succ j => exact .inr (.inr ⟨hj, by omega, by omega, by omega⟩)
  | succ i ih => intro L c x h; cases L with
    | nil => exact ⟨[], h, fun j u hj => by cases hj⟩
    | cons a t =>
      cases i with
      | zero =>
        obtain ⟨b, h, hb⟩ := zKill_ok (a := a) (f := fun b => zSet1 0 v t (fun u => c (b :: u))) h
        obtain ⟨L', h, hs⟩ := ih h
        refine ⟨_, h, fun j u hj => ?_⟩
        cases j with
        | zero =>
          cases hj
          rcases hb with hb | ⟨rfl, hb⟩
          · exact .inl hb
          · exact .inr (.inr ⟨rfl, by omega, by omega, fun _ => hb⟩)
        | succ j =>
          rcases hs j u hj with hs | ⟨e, hs⟩ | ⟨h1, h2, h3, h4⟩
          · exact .inl hs
          · exact .inr (.inl ⟨by omega, hs⟩)
          · exact .inr (.inr ⟨h1, by omega, by omega, fun e => h4 (by omega)⟩)
      | succ i =>
        obtain ⟨L', h, hs⟩ := ih (L := t) (c := fun u => c (a :: u)) h
        refine ⟨_, h, fun j u hj => ?_⟩
        cases j with
        | zero =>
          cases hj
          exact .inr (.inr ⟨rfl, by omega, by omega, by omega⟩)
        | succ j =>
          rcases hs j u hj with hs | ⟨e, hs⟩ | ⟨h1, h2, h3, h4⟩
          · exact .inl hs
          · exact .inr (.inl ⟨by omega, hs⟩)
          · exact .inr (.inr ⟨h1, by omega, by omega, fun e => h4 (by omega)⟩)
theorem zSet2_ok {v : zV} {i : Nat} : ∀ {L : List zV} {c : List zV → zR} {x : Option zV × zW}, zSet2 i v L c = some x → ∃ L', c L' = some x ∧ zSt i 2 v L L' := by
  induction i with
  | zero => intro L c x h; cases L with
    | nil => exact ⟨[], h, fun j u hj => by cases hj⟩
    | cons a t =>
      cases t with
      | nil =>
        refine ⟨[v], h, fun j u hj => ?_⟩
        cases j with
        | zero =>
          cases hj
          exact .inr (.inl ⟨rfl, rfl⟩)
        | succ j => cases hj
      | cons b t =>
        refine ⟨v :: zVd :: t, h, fun j u hj => ?_⟩
        cases j with
        | zero =>
          cases hj
          exact .inr (.inl ⟨rfl, rfl⟩)
        | succ j =>
          cases j with
          | zero =>
            cases hj
            exact .inl rfl
          | succ j => exact .inr (.inr ⟨hj, by omega, by omega, by omega⟩)
  | succ i ih => intro L c x h; cases L with
    | nil => exact ⟨[], h, fun j u hj => by cases hj⟩
    | cons a t =>
      cases i with
      | zero =>
        obtain ⟨b, h, hb⟩ := zKill_ok (a := a) (f := fun b => zSet2 0 v t (fun u => c (b :: u))) h
        obtain ⟨L', h, hs⟩ := ih h
        refine ⟨_, h, fun j u hj => ?_⟩
        cases j with
        | zero =>
          cases hj
          rcases hb with hb | ⟨rfl, hb⟩
          · exact .inl hb
          · exact .inr (.inr ⟨rfl, by omega, by omega, fun _ => hb⟩)
        | succ j =>
          rcases hs j u hj with hs | ⟨e, hs⟩ | ⟨h1, h2, h3, h4⟩
          · exact .inl hs
          · exact .inr (.inl ⟨by omega, hs⟩)
          · exact .inr (.inr ⟨h1, by omega, by omega, fun e => h4 (by omega)⟩)
      | succ i =>
        obtain ⟨L', h, hs⟩ := ih (L := t) (c := fun u => c (a :: u)) h
        refine ⟨_, h, fun j u hj => ?_⟩
        cases j with
        | zero =>
          cases hj
          exact .inr (.inr ⟨rfl, by omega, by omega, by omega⟩)
        | succ j =>
          rcases hs j u hj with hs | ⟨e, hs⟩ | ⟨h1, h2, h3, h4⟩
          · exact .inl hs
          · exact .inr (.inl ⟨by omega, hs⟩)
          · exact .inr (.inr ⟨h1, by omega, by omega, fun e => h4 (by omega)⟩)
theorem pGet_keep {P : Nat × Value → Bool} {j : Nat} {c : Value} : ∀ {lv : pLv}, pGet lv j = some c → P (j, c) = true → pGet (lv.filter P) j = some c := by
  intro lv
  induction lv with
  | nil => intro h; cases h
  | cons q l ih =>
    intro h hp
    unfold pGet at h
    cases hq : Nat.beq q.1 j with
    | true =>
      rw [hq, cond_true] at h
      cases h
      have e : q.1 = j := pBeq hq
      have e3 : (j, q.2) = q := by rw [← e]
      rw [e3] at hp
      rw [List.filter_cons_of_pos hp]
      unfold pGet
      rw [hq]
      rfl
    | false =>
      rw [hq, cond_false] at h
      by_cases hp2 : P q = true
      · rw [List.filter_cons_of_pos hp2]
        unfold pGet
        rw [hq, cond_false]
        exact ih h hp
      · rw [List.filter_cons_of_neg hp2]
        exact ih h hp
theorem pGet_hd {i j : Nat} {c : Value} {lv : pLv} (h : ¬ j = i) : pGet ((i, c) :: lv) j = pGet lv j := by
  conv => lhs; unfold pGet
  rw [show Nat.beq i j = false from by
    cases e : Nat.beq i j with
    | true => exact absurd (pBeq e).symm h
    | false => rfl]
  rfl
theorem pGet_hd0 {i : Nat} {c : Value} {lv : pLv} : pGet ((i, c) :: lv) i = some c := by
  unfold pGet
  rw [Nat.beq_refl]
  rfl
theorem yL_st1 {ρ : Nat → Int} {i : Nat} {v : zV} {c : Value} {L L' : List zV} {lv : pLv} (hL : yL ρ L lv) (hv : yV ρ v c) (h : zSt i 1 v L L') : yL ρ L' (pSet1 lv i c) := by
  intro j u hj
  rcases h j u hj with h | ⟨rfl, rfl⟩ | ⟨h1, h2, _, h4⟩
  · exact .inl h
  · exact .inr ⟨c, pGet_hd0, hv⟩
  · rcases hL j u h1 with g | ⟨d, g1, g2⟩
    · exact .inl g
    · refine .inr ⟨d, ?_, g2⟩
      unfold pSet1
      rw [pGet_hd h2]
      refine pGet_keep g1 ?_
      have e1 : (j == i) = false := by rw [beq_eq_false_iff_ne]; exact h2
      show (!(j == i) && !(j + 1 == i && d.category == 2)) = true
      rw [e1]
      by_cases e : j + 1 = i
      · rw [h4 e ρ d g2]
        simp
      · have : (j + 1 == i) = false := by rw [beq_eq_false_iff_ne]; exact e
        rw [this]
        rfl
theorem yL_st2 {ρ : Nat → Int} {i : Nat} {v : zV} {c : Value} {L L' : List zV} {lv : pLv} (hL : yL ρ L lv) (hv : yV ρ v c) (h : zSt i 2 v L L') : yL ρ L' (pSet2 lv i c) := by
  intro j u hj
  rcases h j u hj with h | ⟨rfl, rfl⟩ | ⟨h1, h2, h3, h4⟩
  · exact .inl h
  · exact .inr ⟨c, pGet_hd0, hv⟩
  · rcases hL j u h1 with g | ⟨d, g1, g2⟩
    · exact .inl g
    · refine .inr ⟨d, ?_, g2⟩
      unfold pSet2
      rw [pGet_hd h2]
      refine pGet_keep g1 ?_
      have e1 : (j == i) = false := by rw [beq_eq_false_iff_ne]; exact h2
      have e2 : (j == i + 1) = false := by rw [beq_eq_false_iff_ne]; exact fun e => h3 ⟨rfl, e⟩
      show (!(j == i) && (!(j == i + 1) && !(j + 1 == i && d.category == 2))) = true
      rw [e1, e2]
      by_cases e : j + 1 = i
      · rw [h4 e ρ d g2]
        simp
      · have : (j + 1 == i) = false := by rw [beq_eq_false_iff_ne]; exact e
        rw [this]
        rfl
-- fields
theorem zSetF_ok {v : zV} {i : Nat} : ∀ {L : List zV} {c : List zV → zR} {x : Option zV × zW}, zSetF i v L c = some x → ∃ L', c L' = some x ∧ ∀ ρ gs y, yT ρ L gs → yV ρ v y → i < gs.length ∧ yT ρ L' (gs.set i y) := by
  induction i with
  | zero => intro L c x h; cases L with
    | nil => cases h
    | cons a t =>
      refine ⟨_, h, fun ρ gs y hT hv => ?_⟩
      obtain ⟨d, gs, rfl, _, hT⟩ := yT_c hT
      exact ⟨Nat.succ_pos _, hv, hT⟩
  | succ i ih => intro L c x h; cases L with
    | nil => cases h
    | cons a t =>
      obtain ⟨L', h, hs⟩ := ih (L := t) (c := fun u => c (a :: u)) h
      refine ⟨_, h, fun ρ gs y hT hv => ?_⟩
      obtain ⟨d, gs, rfl, ha, hT⟩ := yT_c hT
      obtain ⟨h1, h2⟩ := hs ρ gs y hT hv
      exact ⟨Nat.succ_lt_succ h1, ha, h2⟩
theorem yT_get {ρ : Nat → Int} : ∀ {k : Nat} {fs : List zV} {gs : List Value} {v : zV}, yT ρ fs gs → fs[k]? = some v → ∃ c, gs[k]? = some c ∧ yV ρ v c := by
  intro k
  induction k with
  | zero =>
    intro fs gs v hT h
    cases fs with
    | nil => cases h
    | cons a fs =>
      cases h
      obtain ⟨c, gs, rfl, ha, _⟩ := yT_c hT
      exact ⟨c, rfl, ha⟩
  | succ k ih =>
    intro fs gs v hT h
    cases fs with
    | nil => cases h
    | cons a fs =>
      obtain ⟨c, gs, rfl, _, hT⟩ := yT_c hT
      exact ih hT h
-- trees
theorem ra_leaf {α : Type} {x : α} {j : Nat} : (Lean.RArray.leaf x).get j = x := rfl
theorem ra_br {α : Type} {p j : Nat} {l r : Lean.RArray α} : (Lean.RArray.branch p l r).get j = if p ≤ j then r.get j else l.get j := by
  show Bool.rec (motive := fun _ => α) (l.get j) (r.get j) (Nat.ble p j) = _
  cases h : Nat.ble p j with
  | true => rw [if_pos (pBle h)]
  | false => rw [if_neg (fun e => by rw [Nat.ble_eq_true_of_le e] at h; cases h)]
theorem nbeqf {a b : Nat} (h : Nat.beq a b = false) : ¬ a = b := fun e => by rw [e, Nat.beq_refl] at h; cases h
theorem nblef {a b : Nat} (h : Nat.ble a b = false) : b < a := Nat.lt_of_not_le (fun e => by rw [Nat.ble_eq_true_of_le e] at h; cases h)
def zg {α : Type} (t : Lean.RArray α) (j : Nat) : α := t.get j
theorem zg_leaf {α : Type} {x : α} {j : Nat} : zg (.leaf x) j = x := rfl
theorem zg_br {α : Type} {p j : Nat} {l r : Lean.RArray α} : zg (.branch p l r) j = if p ≤ j then zg r j else zg l j := ra_br
theorem zSetT_ok' {α : Type} {k : Nat} {v : α} : ∀ {t : Lean.RArray α} {lo hi : Nat} {c : Lean.RArray α → zR} {x : Option zV × zW}, zSetT k v t lo hi c = some x → ∃ t', c t' = some x ∧ ∀ j, lo ≤ j → (hi = 0 ∨ j < hi) → zg t' j = if j = k then v else zg t j := by
  intro t
  induction t with
  | leaf old =>
    intro lo hi c x h
    rcases zB h with ⟨h1, h⟩ | ⟨h1, h⟩
    · have n1 := nbeqf h1
      rcases zB h with ⟨h2, h⟩ | ⟨h2, h⟩
      · refine ⟨_, h, fun j hj hk => ?_⟩
        rw [zg_br, zg_leaf, zg_br, zg_leaf, zg_leaf]
        repeat' split
        all_goals first | rfl | omega
      · have e2 := pBeq h2
        refine ⟨_, h, fun j hj hk => ?_⟩
        rw [zg_br, zg_leaf, zg_leaf]
        repeat' split
        all_goals first | rfl | omega
    · have e1 := pBeq h1
      rcases zB h with ⟨h2, h⟩ | ⟨h2, h⟩
      · refine ⟨_, h, fun j hj hk => ?_⟩
        rw [zg_br, zg_leaf, zg_leaf]
        repeat' split
        all_goals first | rfl | omega
      · have e2 := pBeq h2
        refine ⟨_, h, fun j hj hk => ?_⟩
        rw [zg_leaf]
        repeat' split
        all_goals first | rfl | omega
  | branch p l r ihl ihr =>
    intro lo hi c x h
    rcases zB h with ⟨h1, h⟩ | ⟨h1, h⟩
    · have n1 := nblef h1
      obtain ⟨t', h, ht⟩ := ihl h
      refine ⟨_, h, fun j hj hk => ?_⟩
      rw [zg_br, zg_br]
      by_cases e : p ≤ j
      · rw [if_pos e, if_pos e, if_neg (by omega)]
      · rw [if_neg e, if_neg e]
        exact ht j hj (.inr (by omega))
    · have n1 := pBle h1
      obtain ⟨t', h, ht⟩ := ihr h
      refine ⟨_, h, fun j hj hk => ?_⟩
      rw [zg_br, zg_br]
      by_cases e : p ≤ j
      · rw [if_pos e, if_pos e]
        exact ht j e hk
      · rw [if_neg e, if_neg e, if_neg (by omega)]
theorem zSetT_ok {α : Type} {k : Nat} {v : α} {t : Lean.RArray α} {lo hi : Nat} {c : Lean.RArray α → zR} {x : Option zV × zW} (h : zSetT k v t lo hi c = some x) : ∃ t', c t' = some x ∧ ∀ j, lo ≤ j → (hi = 0 ∨ j < hi) → t'.get j = if j = k then v else t.get j := zSetT_ok' h
theorem zSame_ok {a b : zV} {x y : zR} {v : Option zV × zW} (h : zSame a b x y = some v) : (a = b ∧ x = some v) ∨ y = some v := by
  rcases zS2 h with ⟨m, rfl, h⟩ | ⟨z, rfl, h⟩
  · rcases zS2 h with ⟨n, rfl, h⟩ | ⟨z, rfl, h⟩
    · rcases zB h with ⟨_, h⟩ | ⟨h1, h⟩
      · exact .inr h
      · exact .inl ⟨by rw [pBeq h1], h⟩
    · exact .inr h
  · exact .inr h
theorem zSetA_ok' {k : Nat} {v : zV} : ∀ {t : Lean.RArray zV} {lo hi : Nat} {c : Lean.RArray zV → zR} {x : Option zV × zW}, zSetA k v t lo hi c = some x → ∃ t', c t' = some x ∧ ∀ j, lo ≤ j → j < hi → zg t' j = if j = k then v else zg t j := by
  intro t
  induction t with
  | leaf old =>
    intro lo hi c x h
    rcases zSame_ok h with ⟨e, h⟩ | h
    · refine ⟨_, h, fun j hj hk => ?_⟩
      rw [zg_leaf, e]
      split <;> rfl
    rcases zB h with ⟨h1, h⟩ | ⟨h1, h⟩
    · have n1 := nbeqf h1
      rcases zB h with ⟨h2, h⟩ | ⟨h2, h⟩
      · refine ⟨_, h, fun j hj hk => ?_⟩
        rw [zg_br, zg_leaf, zg_br, zg_leaf, zg_leaf]
        repeat' split
        all_goals first | rfl | omega
      · have e2 := pBeq h2
        refine ⟨_, h, fun j hj hk => ?_⟩
        rw [zg_br, zg_leaf, zg_leaf]
        repeat' split
        all_goals first | rfl | omega
    · have e1 := pBeq h1
      rcases zB h with ⟨h2, h⟩ | ⟨h2, h⟩
      · refine ⟨_, h, fun j hj hk => ?_⟩
        rw [zg_br, zg_leaf, zg_leaf]
        repeat' split
        all_goals first | rfl | omega
      · have e2 := pBeq h2
        refine ⟨_, h, fun j hj hk => ?_⟩
        rw [zg_leaf]
        repeat' split
        all_goals first | rfl | omega
  | branch p l r ihl ihr =>
    intro lo hi c x h
    rcases zB h with ⟨h1, h⟩ | ⟨h1, h⟩
    · have n1 := nblef h1
      obtain ⟨t', h, ht⟩ := ihl h
      refine ⟨_, h, fun j hj hk => ?_⟩
      rw [zg_br, zg_br]
      by_cases e : p ≤ j
      · rw [if_pos e, if_pos e, if_neg (by omega)]
      · rw [if_neg e, if_neg e]
        exact ht j hj (by omega)
    · have n1 := pBle h1
      obtain ⟨t', h, ht⟩ := ihr h
      refine ⟨_, h, fun j hj hk => ?_⟩
      rw [zg_br, zg_br]
      by_cases e : p ≤ j
      · rw [if_pos e, if_pos e]
        exact ht j e hk
      · rw [if_neg e, if_neg e, if_neg (by omega)]
theorem zSetA_ok {k : Nat} {v : zV} {t : Lean.RArray zV} {lo hi : Nat} {c : Lean.RArray zV → zR} {x : Option zV × zW} (h : zSetA k v t lo hi c = some x) : ∃ t', c t' = some x ∧ ∀ j, lo ≤ j → j < hi → t'.get j = if j = k then v else t.get j := zSetA_ok' h
-- cells
theorem zPut_ok {a : Nat} {y : zC} {W : zW} {c : zW → zR} {x : Option zV × zW} (h : zPut a y W c = some x) : ∃ W', c W' = some x ∧ ∀ ρ w z z0, yW ρ W w → w[a]? = some z0 → yC ρ y (some z) → yW ρ W' (w.set a z) := by
  obtain ⟨t', h, ht⟩ := zSetT_ok (hi := zTop) h
  refine ⟨_, h, fun ρ w z z0 hW ha hy => ⟨hW.1, by rw [List.length_set]; exact hW.2.1, fun k => ?_⟩⟩
  have e := ht k (Nat.zero_le _) (.inl rfl)
  show yC ρ (t'.get k) _
  rw [e, List.getElem?_set]
  have hl : a < w.length := (List.getElem?_eq_some_iff.mp ha).1
  by_cases ek : k = a
  · rw [if_pos ek, if_pos ek.symm, if_pos (by omega)]
    exact hy
  · rw [if_neg ek, if_neg (fun z => ek z.symm)]
    exact hW.2.2 k
theorem zNew_ok {y : zC} {W : zW} {c : zW → zR} {x : Option zV × zW} (h : zNew y W c = some x) : ∃ W', c W' = some x ∧ ∀ ρ w z, yW ρ W w → yC ρ y (some z) → yW ρ W' (w ++ [z]) := by
  obtain ⟨t', h, ht⟩ := zSetT_ok (hi := zTop) h
  refine ⟨_, h, fun ρ w z hW hy => ⟨hW.1, by rw [List.length_append, hW.2.1]; rfl, fun k => ?_⟩⟩
  have e := ht k (Nat.zero_le _) (.inl rfl)
  show yC ρ (t'.get k) _
  rw [e]
  have hl := hW.2.1
  by_cases ek : k = W.2.1
  · rw [if_pos ek, List.getElem?_append_right (by omega), show k - w.length = 0 by omega]
    exact hy
  · rw [if_neg ek]
    rcases Nat.lt_or_ge k w.length with g | g
    · rw [List.getElem?_append_left g]
      exact hW.2.2 k
    · have := hW.2.2 k
      rw [List.getElem?_eq_none (by omega)] at this
      rw [List.getElem?_eq_none (by rw [List.length_append]; show w.length + 1 ≤ k; omega)]
      exact this
-- stacks
theorem zCat_ok {ρ : Nat → Int} : ∀ {S : List zV} {st : List Value}, yT ρ S st → zCat S < 1000 → pCat st = zCat S := by
  intro S
  induction S with
  | nil => intro st hT _; rw [yT_n hT]; rfl
  | cons v S ih =>
    intro st hT h
    obtain ⟨c, st, rfl, hv, hT2⟩ := yT_c hT
    rcases v with n | a | n | p | p | u
    · have h : 1 + zCat S < 1000 := h
      rw [hv.2]
      show 1 + pCat st = 1 + zCat S
      rw [ih hT2 (by omega)]
    · have h : 1 + zCat S < 1000 := h
      rw [show c = .ref a from hv]
      show 1 + pCat st = 1 + zCat S
      rw [ih hT2 (by omega)]
    · have h : 2 + zCat S < 1000 := h
      rw [hv.2]
      show 2 + pCat st = 2 + zCat S
      rw [ih hT2 (by omega)]
    · have h : 1 + zCat S < 1000 := h
      rw [show c = .int _ from hv]
      show 1 + pCat st = 1 + zCat S
      rw [ih hT2 (by omega)]
    · have h : 2 + zCat S < 1000 := h
      rw [show c = .long _ from hv]
      show 2 + pCat st = 2 + zCat S
      rw [ih hT2 (by omega)]
    · have h : 1000 + zCat S < 1000 := h
      omega
theorem zCk_ok {as S : List zV} {mx : Nat} {r : zR} {x : Option zV × zW} (h : zCk as S mx r = some x) (hm : mx < 1000) : r = some x ∧ ∀ ρ cas st, yT ρ as cas → yT ρ S st → Nat.ble (pCat st) 8 = true ∧ Nat.ble (pCat cas) mx = true := by
  obtain ⟨h1, h⟩ := zBt h
  obtain ⟨h2, h⟩ := zBt h
  refine ⟨h, fun ρ cas st ha hs => ?_⟩
  have g1 := pBle h1
  have g2 := pBle h2
  rw [zCat_ok hs (by omega), zCat_ok ha (by omega)]
  exact ⟨h1, h2⟩
theorem zArgs_ok {n : Nat} : ∀ {as S : List zV} {c : List zV → List zV → zR} {x : Option zV × zW}, zArgs n as S c = some x → ∃ as' S', c as' S' = some x ∧ ∀ ρ cas st, yT ρ as cas → yT ρ S st → ∃ cas' st', pArgs n cas st = some (cas', st') ∧ yT ρ as' cas' ∧ yT ρ S' st' := by
  induction n with
  | zero => intro as S c x h; exact ⟨as, S, h, fun ρ cas st ha hs => ⟨cas, st, rfl, ha, hs⟩⟩
  | succ n ih =>
    intro as S c x h
    obtain ⟨v, S, rfl, h⟩ := zL0 (f := fun v S => zArgs n (v :: as) S c) h
    obtain ⟨as', S', h, H⟩ := ih h
    refine ⟨as', S', h, fun ρ cas st ha hs => ?_⟩
    obtain ⟨d, st, rfl, hd, hs⟩ := yT_c hs
    exact H ρ (d :: cas) st ⟨hd, ha⟩ hs
theorem zDs_ok : ∀ (i : Nat) (v : zV), zDs[i]? = some v → v = zVd := by
  intro i v h
  have e : zDs = List.replicate 24 zVd := rfl
  rw [e, List.getElem?_replicate] at h
  split at h
  · cases h
    rfl
  · cases h
theorem zLoc_ok : ∀ {as : List zV} {c : List zV → zR} {x : Option zV × zW}, zLoc as c = some x → ∃ L, c L = some x ∧ ∀ ρ cas k, yT ρ as cas → ∀ i v, L[i]? = some v → v = zVd ∨ ∃ d, pGet (lv_args k cas) (k + i) = some d ∧ yV ρ v d := by
  intro as
  induction as with
  | nil => intro c x h; exact ⟨zDs, h, fun ρ cas k _ i v hv => .inl (zDs_ok i v hv)⟩
  | cons a as ih =>
    intro c x h
    obtain ⟨L, h, H⟩ := ih h
    rcases zLong_ok h with ⟨h, hc⟩ | ⟨h, hc⟩
    · refine ⟨_, h, fun ρ cas k hT i v hv => ?_⟩
      obtain ⟨d, cas, rfl, hd, hT⟩ := yT_c hT
      have e : lv_args k (d :: cas) = (k, d) :: lv_args (k + 2) cas := by
        show (k, d) :: lv_args (if d.category = 2 then k + 2 else k + 1) cas = _
        rw [if_pos (hc ρ d hd)]
      rw [e]
      rcases i with _ | _ | i
      · cases hv
        exact .inr ⟨d, pGet_hd0, hd⟩
      · cases hv
        exact .inl rfl
      · rw [pGet_hd (by omega)]
        have := H ρ cas (k + 2) hT i v hv
        rw [show k + 2 + i = k + (i + 1 + 1) by omega] at this
        exact this
    · refine ⟨_, h, fun ρ cas k hT i v hv => ?_⟩
      obtain ⟨d, cas, rfl, hd, hT⟩ := yT_c hT
      have e : lv_args k (d :: cas) = (k, d) :: lv_args (k + 1) cas := by
        show (k, d) :: lv_args (if d.category = 2 then k + 2 else k + 1) cas = _
        rw [if_neg (by rw [hc ρ d hd]; decide)]
      rw [e]
      rcases i with _ | i
      · cases hv
        exact .inr ⟨d, pGet_hd0, hd⟩
      · rw [pGet_hd (by omega)]
        have := H ρ cas (k + 1) hT i v hv
        rw [show k + 1 + i = k + (i + 1) by omega] at this
        exact this
theorem zOp_ok {o : Option zV} {kn : zKn} {L S : List zV} {W : zW} {x : Option zV × zW} (h : zOp o kn L S W = some x) : ∃ v, o = some v ∧ kn L (v :: S) W = some x := zO0 h
theorem zPush_ok {v : zV} {kn : zKn} {L S : List zV} {W : zW} {x : Option zV × zW} (h : zPush v kn L S W = some x) : kn L (v :: S) W = some x := by
  rcases v with n | z <;> exact h
theorem zNo_ok {v : zV} {f : Nat → zR} {g : zR} {x : Option zV × zW} (h : zNo v f g = some x) : (∃ n, v = .inr (.inr (.inl n)) ∧ f n = some x) ∨ g = some x := by
  rcases v with n | a | n | z
  · cases h
  · cases h
  · exact .inl ⟨n, rfl, h⟩
  · exact .inr h
theorem zSl_ok {o : Option Bool} {x y : zR} {v : Option zV × zW} (h : zSl o x y = some v) : (o = some false ∧ x = some v) ∨ (o = some true ∧ y = some v) := by
  rcases o with _ | _ | _
  · cases h
  · exact .inl ⟨rfl, h⟩
  · exact .inr ⟨rfl, h⟩

