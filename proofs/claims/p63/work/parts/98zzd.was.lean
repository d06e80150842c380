/-! THE LAW: its loop. By hand. -/
abbrev Nb (b : Nat) : Nat → Prop := fun i => ¬ inO b i
/-- the sheets of the steps that can be taken back -/
def wasI (w : pW) (b ws aw : Nat) (L : List St) : Prop := ¬ inO b ws ∧ ∃ wf : Nat → Option Nat, w[ws]? = some (.inl (5, 40, rfs wf)) ∧ (∀ i : Nat, i < L.length → ∃ (ai : Nat) (Xi : Sh) (J : St), wf i = some ai ∧ ai ≠ aw ∧ L[i]? = some J ∧ shAt w (Nb b) (Nb b) ai Xi ∧ Rel J Xi) ∧ ∀ i j ai : Nat, i < j → j < L.length → wf i = some ai → wf j = some ai → False
def lawI (b ws s n9 : Nat) (sc : Nat → Int) (M : List St) (K : St) (w : pW) (aw n : Nat) (S : St) (L : List St) : Prop := obk w b S L M K ∧ (∃ X : Sh, shAt w (Nb b) (Nb b) aw X ∧ Rel S X) ∧ n = L.length ∧ L.length ≤ 20 ∧ wasI w b ws aw L ∧ ¬ inO b s ∧ w[s]? = some (cS n9 sc)
theorem sh_keepN {w w' : pW} {b x : Nat} {X : Sh} (h : shAt w (Nb b) (Nb b) x X) (k : agr (fun i => inO b i ∨ w.length ≤ i) w w') : shAt w' (Nb b) (Nb b) x X :=
  sh_mono (sh_agr (shAt_lt h) k (fun i q => by
    rcases q with q | q
    · exact ⟨fun z => z.1 q, fun z => z.1 q⟩
    · exact ⟨fun z => by have := z.2; omega, fun z => by have := z.2; omega⟩)) (fun i _ z => z.1) (fun i _ z => z.1)
theorem sh_keepO {w w' : pW} {b x aw : Nat} {X : Sh} (h : shAt w (Nb b) (Nb b) x X) {ci : Nat} {fs : List Value} (ho : w[aw]? = some (.inr (ci, fs))) (hne : x ≠ aw) (k : agr (fun i => (inO b i ∨ w.length ≤ i) ∨ i = aw) w w') : shAt w' (Nb b) (Nb b) x X :=
  sh_mono (sh_agro (shAt_lt h) ho hne k (fun i q => by
    rcases q with (q | q) | q
    · exact Or.inl ⟨fun z => z.1 q, fun z => z.1 q⟩
    · exact Or.inl ⟨fun z => by have := z.2; omega, fun z => by have := z.2; omega⟩
    · exact Or.inr q)) (fun i _ z => z.1) (fun i _ z => z.1)
theorem cell_keepN {w w' : pW} {b i : Nat} {c : pCell} (h : w[i]? = some c) (hb : ¬ inO b i) (k : agr (fun i => inO b i ∨ w.length ≤ i) w w') : w'[i]? = some c := cell_agr k h (fun q => by
  rcases q with q | q
  · exact hb q
  · have := get_lt h; omega)
theorem was_keepN {w w' : pW} {b ws aw : Nat} {L : List St} (h : wasI w b ws aw L) (k : agr (fun i => inO b i ∨ w.length ≤ i) w w') : wasI w' b ws aw L := by
  obtain ⟨h1, wf, h2, h3, h4⟩ := h
  refine ⟨h1, wf, cell_keepN h2 h1 k, fun i hi => ?_, h4⟩
  obtain ⟨ai, Xi, J, a1, a2, a3, a4, a5⟩ := h3 i hi
  exact ⟨ai, Xi, J, a1, a2, a3, sh_keepN a4 k, a5⟩
theorem was_keepO {w w' : pW} {b ws aw : Nat} {L : List St} (h : wasI w b ws aw L) {ci : Nat} {fs : List Value} (ho : w[aw]? = some (.inr (ci, fs))) (k : agr (fun i => (inO b i ∨ w.length ≤ i) ∨ i = aw) w w') : wasI w' b ws aw L := by
  obtain ⟨h1, wf, h2, h3, h4⟩ := h
  refine ⟨h1, wf, cell_agr k h2 (fun q => by
    rcases q with (q | q) | q
    · exact h1 q
    · have := get_lt h2; omega
    · rw [q, ho] at h2; cases h2), fun i hi => ?_, h4⟩
  obtain ⟨ai, Xi, J, a1, a2, a3, a4, a5⟩ := h3 i hi
  exact ⟨ai, Xi, J, a1, a2, a3, sh_keepO a4 ho a2 k, a5⟩
theorem sh_objN {w : pW} {b x : Nat} {X : Sh} (h : shAt w (Nb b) (Nb b) x X) : ¬ inO b x ∧ x < w.length ∧ ∃ fs : List Value, w[x]? = some (.inr (9, fs)) := by
  obtain ⟨pa, fa, ha, pf, gf, hf, ff, hP⟩ := h
  exact ⟨hP.1.1, get_lt hP.2.1, _, hP.2.1⟩
/-- a row of sheets is written: sheets stand -/
theorem sh_setws {w : pW} {b ws x : Nat} {X : Sh} {f f' : Nat → Option Nat} (h : shAt w (Nb b) (Nb b) x X) (hws : w[ws]? = some (.inl (5, 40, rfs f))) : shAt (w.set ws (.inl (5, 40, rfs f'))) (Nb b) (Nb b) x X := by
  obtain ⟨pa, fa, ha, pf, gf, hf, ff, hb, h0, h1, h2, h3, h4, h5, h6, h7, h8, h9⟩ := h
  have k0 : ∀ {i : Nat} {c : pCell}, ckd c ≠ 5 → w[i]? = some c → (w.set ws (.inl (5, 40, rfs f')))[i]? = some c := fun hc hi => set_keep hi (ne_kd hi hws (by exact hc))
  have d3 : (3 : Nat) ≠ 5 := by decide
  have d0 : (0 : Nat) ≠ 5 := by decide
  have k3 : ∀ {i n : Nat} {g : (Nat → Int32) ⊕ (Nat → Int64) ⊕ (Nat → UInt32) ⊕ (Nat → UInt64) ⊕ (Nat → Option Nat)}, w[i]? = some (.inl (3, n, g)) → (w.set ws (.inl (5, 40, rfs f')))[i]? = some (.inl (3, n, g)) := fun hi => set_keep hi (fun e => by
    rw [e, hws] at hi
    have hi := Option.some.inj hi
    have hi := Sum.inl.inj hi
    have := congrArg Prod.fst hi
    exact absurd this.symm d3)
  have k9 : ∀ {i n : Nat} {g : (Nat → Int32) ⊕ (Nat → Int64) ⊕ (Nat → UInt32) ⊕ (Nat → UInt64) ⊕ (Nat → Option Nat)}, w[i]? = some (.inl (0, n, g)) → (w.set ws (.inl (5, 40, rfs f')))[i]? = some (.inl (0, n, g)) := fun hi => set_keep hi (fun e => by
    rw [e, hws] at hi
    have hi := Option.some.inj hi
    have hi := Sum.inl.inj hi
    have := congrArg Prod.fst hi
    exact absurd this.symm d0)
  refine ⟨pa, fa, ha, pf, gf, hf, ff, hb, set_keep h0 (fun e => by rw [e, hws] at h0; cases h0), k3 h1, h2, fun q x y z hq hz => ?_, k3 h4, fun q hq => ?_, h6, k3 h7, h8, fun q hq => ?_⟩
  · obtain ⟨r, r1, r2, r4⟩ := h3 q x y z hq hz
    exact ⟨r, r1, r2, k9 r4⟩
  · obtain ⟨r1, r2, r4⟩ := h5 q hq
    exact ⟨r1, r2, k9 r4⟩
  · obtain ⟨r, x, y, r1, r2, r4, r5⟩ := h9 q hq
    exact ⟨r, x, y, r1, r2, k9 r4, r5⟩
/-- one more step that can be taken back -/
theorem was_push {w : pW} {b ws aw c : Nat} {L : List St} {S : St} {X : Sh} (h : wasI w b ws aw L) (hs : shAt w (Nb b) (Nb b) aw X) (hR : Rel S X) (hc : aw ≠ c) (hold : ∀ (i ai : Nat), i < L.length → (∀ wf : Nat → Option Nat, w[ws]? = some (.inl (5, 40, rfs wf)) → wf i = some ai → ai ≠ c)) {f' : Nat → Option Nat} (hlt : L.length < 40) (hf : ∀ wf : Nat → Option Nat, w[ws]? = some (.inl (5, 40, rfs wf)) → f' = va_up wf L.length (some aw)) : wasI (w.set ws (.inl (5, 40, rfs f'))) b ws c (L ++ [S]) := by
  obtain ⟨h1, wf, h2, h3, h4⟩ := h
  have ef := hf wf h2
  subst ef
  have hl : (L ++ [S]).length = L.length + 1 := by rw [List.length_append]; rfl
  refine ⟨h1, _, set_at h2, fun i hi => ?_, fun i j ai hij hj e1 e2 => ?_⟩
  · by_cases e : i = L.length
    · subst e
      refine ⟨aw, X, S, vaU_at, hc, ?_, sh_setws hs h2, hR⟩
      rw [List.getElem?_append_right (Nat.le_refl _), Nat.sub_self]
      rfl
    · obtain ⟨ai, Xi, J, a1, a2, a3, a4, a5⟩ := h3 i (by omega)
      refine ⟨ai, Xi, J, by rw [vaU_ne e]; exact a1, hold i ai (by omega) wf h2 a1, ?_, sh_setws a4 h2, a5⟩
      rw [List.getElem?_append_left (by omega)]
      exact a3
  · rw [vaU_ne (show i ≠ L.length by omega)] at e1
    by_cases e : j = L.length
    · subst e
      rw [vaU_at] at e2
      obtain ⟨ai', Xi, J, a1, a2, -⟩ := h3 i (by omega)
      rw [a1] at e1
      have e1 := Option.some.inj e1
      have e2 := Option.some.inj e2
      omega
    · rw [vaU_ne e] at e2
      exact h4 i j ai hij (by omega) e1 e2
theorem was_shift {w : pW} {b ws aw c : Nat} {L : List St} {S : St} {X : Sh} (h1 : ¬ inO b ws) {wf : Nat → Option Nat} (h2 : w[ws]? = some (.inl (5, 40, rfs wf))) (h3 : ∀ i : Nat, i < L.length → ∃ (ai : Nat) (Xi : Sh) (J : St), wf i = some ai ∧ ai ≠ aw ∧ L[i]? = some J ∧ shAt w (Nb b) (Nb b) ai Xi ∧ Rel J Xi) (h4 : ∀ i j ai : Nat, i < j → j < L.length → wf i = some ai → wf j = some ai → False) (hs : shAt w (Nb b) (Nb b) aw X) (hR : Rel S X) (hc : aw ≠ c) (hold : ∀ (i ai : Nat), i < L.length → wf i = some ai → ai ≠ c) (hlen : L.length = 20) {gg : Nat → Option Nat} (hg : ∀ j : Nat, j < 19 → gg j = wf (j + 1)) : wasI (w.set ws (.inl (5, 40, rfs (va_up gg 19 (some aw))))) b ws c (L.tail ++ [S]) := by
  have htl : L.tail.length = 19 := by rw [List.length_tail, hlen]
  have hl : (L.tail ++ [S]).length = 20 := by rw [List.length_append, htl]; rfl
  have hget : ∀ i : Nat, L.tail[i]? = L[i + 1]? := fun i => by cases L <;> rfl
  refine ⟨h1, _, set_at h2, fun i hi => ?_, fun i j ai hij hj e1 e2 => ?_⟩
  · by_cases e : i = 19
    · subst e
      refine ⟨aw, X, S, vaU_at, hc, ?_, sh_setws hs h2, hR⟩
      rw [List.getElem?_append_right (by omega), htl]
      rfl
    · obtain ⟨ai, Xi, J, a1, a2, a3, a4, a5⟩ := h3 (i + 1) (by omega)
      refine ⟨ai, Xi, J, by rw [vaU_ne e, hg i (by omega)]; exact a1, hold (i + 1) ai (by omega) a1, ?_, sh_setws a4 h2, a5⟩
      rw [List.getElem?_append_left (by omega), hget]
      exact a3
  · rw [vaU_ne (show i ≠ 19 by omega), hg i (by omega)] at e1
    by_cases e : j = 19
    · subst e
      rw [vaU_at] at e2
      obtain ⟨ai', Xi, J, a1, a2, -⟩ := h3 (i + 1) (by omega)
      rw [a1] at e1
      have e1 := Option.some.inj e1
      have e2 := Option.some.inj e2
      omega
    · rw [vaU_ne e, hg j (by omega)] at e2
      exact h4 (i + 1) (j + 1) ai (by omega) (by omega) e1 e2
