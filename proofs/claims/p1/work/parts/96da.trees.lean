/-! TREES THAT SAY LESS: from a world that stands to a written one. By hand. -/
def zVs (v u : zV) : Bool := match u with
  | .inr (.inr (.inr (.inr (.inr _)))) => true
  | _ => zVe1 v u
theorem zVs_ok {ρ : Nat → Int} {v u : zV} {c : Value} (h : zVs v u = true) (hv : yV ρ v c) : yV ρ u c := by
  unfold zVs at h
  split at h
  · trivial
  · rw [← zVe1_ok h]
    exact hv
def zLs1 : List zV → List zV → Bool
  | [], [] => true
  | v :: S, u :: T => zVs v u && zLs1 S T
  | _, _ => false
theorem zLs1_ok {ρ : Nat → Int} : ∀ {S T : List zV} {st : List Value}, zLs1 S T = true → yT ρ S st → yT ρ T st := by
  intro S
  induction S with
  | nil => intro T st h hs; cases T with
    | nil => exact hs
    | cons u T => cases h
  | cons v S ih => intro T st h hs; cases T with
    | nil => cases h
    | cons u T =>
      have h : (zVs v u && zLs1 S T) = true := h
      rw [Bool.and_eq_true] at h
      obtain ⟨c, st', rfl, h3, h4⟩ := yT_c hs
      exact ⟨zVs_ok h.1 h3, ih h.2 h4⟩
noncomputable def zAs (t u : Lean.RArray zV) (n : Nat) : Bool := Nat.rec (motive := fun _ => Bool) true (fun j ih => zVs (t.get j) (u.get j) && ih) n
theorem zAs_ok {t u : Lean.RArray zV} : ∀ {n : Nat}, zAs t u n = true → ∀ j, j < n → zVs (t.get j) (u.get j) = true := by
  intro n h j hj
  exact allB (P := fun j => zVs (t.get j) (u.get j)) h j hj
def zLf (u : Lean.RArray zV) : Bool := match u with
  | .leaf v => (match v with
    | .inr (.inr (.inr (.inr (.inr _)))) => true
    | _ => false)
  | _ => false
theorem zLf_ok {u : Lean.RArray zV} (h : zLf u = true) {j : Nat} : u.get j = zVd := by
  unfold zLf at h
  split at h
  · split at h
    · rfl
    · cases h
  · cases h
/-- the second says no more than the first -/
noncomputable def zCs (x y : zC) : Bool := match x, y with
  | .inl (k, n, t), .inl (k', n', u) => Nat.beq k k' && (Nat.beq n n' && (bR (zLf u) true (bR (zRe t u) true (zAs t u n))))
  | .inr (c, fs), .inr (c', gs) => Nat.beq c c' && zLs1 fs gs
  | _, _ => false
theorem zCs_ok {ρ : Nat → Int} {x y : zC} {o : Option pCell} (h : zCs x y = true) (hx : yC ρ x o) : yC ρ y o := by
  unfold zCs at h
  split at h
  · rename_i k n t k' n' u
    rw [Bool.and_eq_true, Bool.and_eq_true] at h
    obtain ⟨h1, h2, h3⟩ := h
    have h1 := pBeq h1
    have h2 := pBeq h2
    subst h1
    subst h2
    have hv : ∀ j, j < n → ∀ c, yV ρ (t.get j) c → yV ρ (u.get j) c := by
      rcases bR_or h3 with g | g
      · intro j _ c _
        rw [zLf_ok g]
        trivial
      rcases bR_or g with g | g
      · rw [zRe_ok g]
        exact fun _ _ _ h => h
      · exact fun j hj c hc => zVs_ok (zAs_ok g j hj) hc
    intro hk
    obtain ⟨g1, g2, g3⟩ := hx hk
    refine ⟨g1, fun e => ?_, fun e => ?_⟩
    · obtain ⟨f, e1, e2⟩ := g2 e
      exact ⟨f, e1, fun j hj => hv j hj _ (e2 j hj)⟩
    · obtain ⟨f, e1, e2⟩ := g3 e
      exact ⟨f, e1, fun j hj => hv j hj _ (e2 j hj)⟩
  · rw [Bool.and_eq_true] at h
    obtain ⟨gs, e, g⟩ := hx
    rw [pBeq h.1] at e
    exact ⟨gs, e, zLs1_ok h.2 g⟩
  · cases h
noncomputable def zWs (W : zW) (T : Lean.RArray zC) : Bool := Nat.beq W.2.1 72 && (List.range 72).all (fun k => zCs (W.2.2.get k) (T.get k))
/-- a tree that ends behind the 72 cells -/
def zEn (T : Lean.RArray zC) : Bool := zSp 72 T && (match zLs T with
  | .inl (9, _) => true
  | _ => false)
theorem zWs_ok {ρ : Nat → Int} {W : zW} {T : Lean.RArray zC} {w : pW} (h : zWs W T = true) (hT : zEn T = true) (hW : yW ρ W w) (hD : okD ρ ([], [])) : yW ρ (([], []), 72, T) w := by
  unfold zWs at h
  rw [Bool.and_eq_true] at h
  refine ⟨hD, by rw [hW.2.1, pBeq h.1], fun k => ?_⟩
  rcases Nat.lt_or_ge k 72 with hk | hk
  · exact zCs_ok (List.all_eq_true.mp h.2 k (List.mem_range.mpr hk)) (hW.2.2 k)
  · unfold zEn at hT
    rw [Bool.and_eq_true] at hT
    show yC ρ (T.get k) _
    rw [show T.get k = zLs T from zSp_ok hT.1 k hk]
    have h2 := hT.2
    split at h2
    · rename_i e
      rw [e]
      exact fun h => absurd h (by decide)
    · cases h2
