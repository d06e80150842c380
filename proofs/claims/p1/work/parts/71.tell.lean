/-! THE REFERENCE TELLS POINTS AND DRAWS THEM. Rows laid by program (wip/tools/lay.py, mk71.py). -/
/-- one fixed edge that a told point may split -/
def tStep (f : Nat → Int32) (k : Nat) (x y : Int32) (p q : Nat) : Nat → Int32 := bif !(decide (fxF f p q = 0)) && betwF f p q x y then fnF (fnF (fnF f p q (nI 0)) p k (fxF f p q)) q k (fxF f p q) else f
def tRow (k : Nat) (x y : Int32) (p : Nat) : Nat → Nat → (Nat → Int32) → Nat → Int32
  | 0, _, f => f
  | m + 1, q, f => tRow k x y p m (q + 1) (tStep f k x y p q)
def tAll (k : Nat) (x y : Int32) : Nat → Nat → (Nat → Int32) → Nat → Int32
  | 0, _, f => f
  | m + 1, p, f => tAll k x y m (p + 1) (tRow k x y p p 0 f)
def taF (f : Nat → Int32) (k : Nat) (x y : Int32) : Nat → Int32 := tAll k x y 40 0 (laF f k x y)
theorem tS_n {f : Nat → Int32} {k p q : Nat} {x y : Int32} (h : (!(decide (fxF f p q = 0)) && betwF f p q x y) = false) : tStep f k x y p q = f := by
  unfold tStep
  rw [h]
  rfl
theorem tS_y {f : Nat → Int32} {k p q : Nat} {x y : Int32} (h : (!(decide (fxF f p q = 0)) && betwF f p q x y) = true) : tStep f k x y p q = fnF (fnF (fnF f p q (nI 0)) p k (fxF f p q)) q k (fxF f p q) := by
  unfold tStep
  rw [h]
  rfl
theorem tR_s {k p m q : Nat} {x y : Int32} {f : Nat → Int32} : tRow k x y p (m + 1) q f = tRow k x y p m (q + 1) (tStep f k x y p q) := rfl
theorem tA_s {k m p : Nat} {x y : Int32} {f : Nat → Int32} : tAll k x y (m + 1) p f = tAll k x y m (p + 1) (tRow k x y p p 0 f) := rfl
theorem l_tellQ {w : pW} {o c : Nat} {fs : List Value} (ho : w[o]? = some (.inr (9, .ref c :: fs))) (hoc : o ≠ c) (hcl : c < w.length) {k p : Nat} {x y : Int32} {r : Option Value} {w1 : pW} (hk : k < 40) (hp : p < 40) : ∀ (m q : Nat) (f : Nat → Int32), q + m = p → pRest 229 (91, [(4, .int (nI p)), (0, .ref o), (1, .int (nI k)), (2, .int x), (3, .int y)], [], gA w c (tRow k x y p m q f)) r w1 → pRest 229 (20, [(5, .int (nI q)), (4, .int (nI p)), (0, .ref o), (1, .int (nI k)), (2, .int x), (3, .int y)], [], gA w c f) r w1 := by
  intro m
  induction m with
  | zero =>
    intro q f hq K
    obtain rfl : q = p := by omega
    refine pr_go rfl (s_iload rfl) ?_
    refine pr_go rfl (s_iload rfl) ?_
    refine pr_go rfl (s_icmp_ge_t ((nI_leI (by omega) (by omega)).mpr (by omega))) ?_
    exact pr_less (lvLe_of rfl rfl (by repeat' (first | exact (fun _ h => absurd h List.not_mem_nil) | refine List.forall_mem_cons.mpr ⟨rfl, ?_⟩))) (K)
  | succ m ih =>
    intro q f hq K
    rw [tR_s] at K
    by_cases hv : fxF f p q = 0
    · rw [tS_n (by rw [decide_eq_true hv]; rfl)] at K
      refine pr_go rfl (s_iload rfl) ?_
      refine pr_go rfl (s_iload rfl) ?_
      refine pr_go rfl (s_icmp_ge_f (fun e => absurd ((nI_leI (by omega) (by omega)).mp e) (by omega))) ?_
      refine pr_go rfl (s_aload_n rfl) ?_
      refine pr_go rfl (s_iload rfl) ?_
      refine pr_go rfl (s_iload rfl) ?_
      refine pr_call rfl (s_invV rfl (g_o ho hoc) rfl rfl) (r_fixedAt (g_o ho hoc) (g_c hcl) (by decide) (by decide) (p := p) (q := q) (by omega) (by omega)) ?_
      refine pr_go rfl (s_istore (lv' := [(6, .int (fxF f p q)), (5, .int (nI q)), (4, .int (nI p)), (0, .ref o), (1, .int (nI k)), (2, .int x), (3, .int y)]) rfl) ?_
      refine pr_go rfl (s_iload rfl) ?_
      refine pr_go rfl (s_if_eq_t hv) ?_
      refine pr_go rfl (s_iincN (y := nI (q + 1)) rfl (nI_add _ _) (lv' := [(5, .int (nI (q + 1))), (6, .int (fxF f p q)), (4, .int (nI p)), (0, .ref o), (1, .int (nI k)), (2, .int x), (3, .int y)]) rfl) ?_
      refine pr_go rfl s_goto ?_
      exact pr_less (lvLe_of rfl rfl (by repeat' (first | exact (fun _ h => absurd h List.not_mem_nil) | refine List.forall_mem_cons.mpr ⟨rfl, ?_⟩))) (ih (q + 1) f (by omega) K)
    · cases hb : betwF f p q x y with
      | false =>
        rw [tS_n (by rw [hb, Bool.and_false])] at K
        refine pr_go rfl (s_iload rfl) ?_
        refine pr_go rfl (s_iload rfl) ?_
        refine pr_go rfl (s_icmp_ge_f (fun e => absurd ((nI_leI (by omega) (by omega)).mp e) (by omega))) ?_
        refine pr_go rfl (s_aload_n rfl) ?_
        refine pr_go rfl (s_iload rfl) ?_
        refine pr_go rfl (s_iload rfl) ?_
        refine pr_call rfl (s_invV rfl (g_o ho hoc) rfl rfl) (r_fixedAt (g_o ho hoc) (g_c hcl) (by decide) (by decide) (p := p) (q := q) (by omega) (by omega)) ?_
        refine pr_go rfl (s_istore (lv' := [(6, .int (fxF f p q)), (5, .int (nI q)), (4, .int (nI p)), (0, .ref o), (1, .int (nI k)), (2, .int x), (3, .int y)]) rfl) ?_
        refine pr_go rfl (s_iload rfl) ?_
        refine pr_go rfl (s_if_eq_f hv) ?_
        refine pr_go rfl (s_aload_n rfl) ?_
        refine pr_go rfl (s_iload rfl) ?_
        refine pr_go rfl (s_iload rfl) ?_
        refine pr_go rfl (s_iload_n rfl) ?_
        refine pr_go rfl (s_iload_n rfl) ?_
        refine pr_call rfl (s_invV rfl (g_o ho hoc) rfl rfl) (r_isBetween (g_o ho hoc) (g_c hcl) (by decide) (by decide) (p := p) (q := q) (by omega) (by omega)) ?_
        refine pr_go rfl (s_if_ne_f (by rw [hb]; decide)) ?_
        refine pr_go rfl s_goto ?_
        refine pr_go rfl (s_iincN (y := nI (q + 1)) rfl (nI_add _ _) (lv' := [(5, .int (nI (q + 1))), (6, .int (fxF f p q)), (4, .int (nI p)), (0, .ref o), (1, .int (nI k)), (2, .int x), (3, .int y)]) rfl) ?_
        refine pr_go rfl s_goto ?_
        exact pr_less (lvLe_of rfl rfl (by repeat' (first | exact (fun _ h => absurd h List.not_mem_nil) | refine List.forall_mem_cons.mpr ⟨rfl, ?_⟩))) (ih (q + 1) f (by omega) K)
      | true =>
        rw [tS_y (by rw [decide_eq_false hv, hb]; rfl)] at K
        refine pr_go rfl (s_iload rfl) ?_
        refine pr_go rfl (s_iload rfl) ?_
        refine pr_go rfl (s_icmp_ge_f (fun e => absurd ((nI_leI (by omega) (by omega)).mp e) (by omega))) ?_
        refine pr_go rfl (s_aload_n rfl) ?_
        refine pr_go rfl (s_iload rfl) ?_
        refine pr_go rfl (s_iload rfl) ?_
        refine pr_call rfl (s_invV rfl (g_o ho hoc) rfl rfl) (r_fixedAt (g_o ho hoc) (g_c hcl) (by decide) (by decide) (p := p) (q := q) (by omega) (by omega)) ?_
        refine pr_go rfl (s_istore (lv' := [(6, .int (fxF f p q)), (5, .int (nI q)), (4, .int (nI p)), (0, .ref o), (1, .int (nI k)), (2, .int x), (3, .int y)]) rfl) ?_
        refine pr_go rfl (s_iload rfl) ?_
        refine pr_go rfl (s_if_eq_f hv) ?_
        refine pr_go rfl (s_aload_n rfl) ?_
        refine pr_go rfl (s_iload rfl) ?_
        refine pr_go rfl (s_iload rfl) ?_
        refine pr_go rfl (s_iload_n rfl) ?_
        refine pr_go rfl (s_iload_n rfl) ?_
        refine pr_call rfl (s_invV rfl (g_o ho hoc) rfl rfl) (r_isBetween (g_o ho hoc) (g_c hcl) (by decide) (by decide) (p := p) (q := q) (by omega) (by omega)) ?_
        refine pr_go rfl (s_if_ne_t (by rw [hb]; decide)) ?_
        refine pr_go rfl (s_aload_n rfl) ?_
        refine pr_go rfl (s_iload rfl) ?_
        refine pr_go rfl (s_iload rfl) ?_
        refine pr_go rfl s_iconst ?_
        refine pr_call rfl (s_invV rfl (g_o ho hoc) rfl rfl) (r_fixNow ho hoc hcl (p := p) (q := q) (v := nI 0) (by omega) (by omega)) ?_
        refine pr_go rfl (s_aload_n rfl) ?_
        refine pr_go rfl (s_iload rfl) ?_
        refine pr_go rfl (s_iload_n rfl) ?_
        refine pr_go rfl (s_iload rfl) ?_
        refine pr_call rfl (s_invV rfl (g_o ho hoc) rfl rfl) (r_fixNow ho hoc hcl (p := p) (q := k) (v := fxF f p q) (by omega) (by omega)) ?_
        refine pr_go rfl (s_aload_n rfl) ?_
        refine pr_go rfl (s_iload rfl) ?_
        refine pr_go rfl (s_iload_n rfl) ?_
        refine pr_go rfl (s_iload rfl) ?_
        refine pr_call rfl (s_invV rfl (g_o ho hoc) rfl rfl) (r_fixNow ho hoc hcl (p := q) (q := k) (v := fxF f p q) (by omega) (by omega)) ?_
        refine pr_go rfl (s_iincN (y := nI (q + 1)) rfl (nI_add _ _) (lv' := [(5, .int (nI (q + 1))), (6, .int (fxF f p q)), (4, .int (nI p)), (0, .ref o), (1, .int (nI k)), (2, .int x), (3, .int y)]) rfl) ?_
        refine pr_go rfl s_goto ?_
        exact pr_less (lvLe_of rfl rfl (by repeat' (first | exact (fun _ h => absurd h List.not_mem_nil) | refine List.forall_mem_cons.mpr ⟨rfl, ?_⟩))) (ih (q + 1) _ (by omega) K)
theorem l_tellP {w : pW} {o c : Nat} {fs : List Value} (ho : w[o]? = some (.inr (9, .ref c :: fs))) (hoc : o ≠ c) (hcl : c < w.length) {k : Nat} {x y : Int32} (hk : k < 40) : ∀ (m p : Nat) (f : Nat → Int32), p + m = 40 → pRest 229 (10, [(4, .int (nI p)), (0, .ref o), (1, .int (nI k)), (2, .int x), (3, .int y)], [], gA w c f) none (gA w c (tAll k x y m p f)) := by
  intro m
  induction m with
  | zero =>
    intro p f hp
    obtain rfl : p = 40 := by omega
    refine pr_go rfl (s_iload rfl) ?_
    refine pr_go rfl s_bipush ?_
    refine pr_go rfl (s_icmp_ge_t ((nI_leI (by omega) (by omega)).mpr (by omega))) ?_
    exact pr_ret rfl rfl
  | succ m ih =>
    intro p f hp
    rw [tA_s]
    have hp2 : p < 40 := by omega
    refine pr_go rfl (s_iload rfl) ?_
    refine pr_go rfl s_bipush ?_
    refine pr_go rfl (s_icmp_ge_f (fun e => absurd ((nI_leI (by omega) (by omega)).mp e) (by omega))) ?_
    refine pr_go rfl s_iconst ?_
    refine pr_go rfl (s_istore (lv' := [(5, .int (nI 0)), (4, .int (nI p)), (0, .ref o), (1, .int (nI k)), (2, .int x), (3, .int y)]) rfl) ?_
    refine l_tellQ ho hoc hcl hk hp2 p 0 f (by omega) ?_
    refine pr_go rfl (s_iincN (y := nI (p + 1)) rfl (nI_add _ _) (lv' := [(4, .int (nI (p + 1))), (0, .ref o), (1, .int (nI k)), (2, .int x), (3, .int y)]) rfl) ?_
    refine pr_go rfl s_goto ?_
    exact ih (p + 1) _ (by omega)
theorem r_tellAt {w : pW} {o c : Nat} {fs : List Value} {f : Nat → Int32} (ho : w[o]? = some (.inr (9, .ref c :: fs))) (hoc : o ≠ c) (hcl : c < w.length) {k : Nat} {x y : Int32} (hk : k < 40) : pRun 229 [.ref o, .int (nI k), .int x, .int y] (gA w c f) none (gA w c (taF f k x y)) := by
  refine pr_run rfl ?_
  refine pr_go rfl (s_aload_n rfl) ?_
  refine pr_go rfl (s_iload_n rfl) ?_
  refine pr_go rfl (s_iload_n rfl) ?_
  refine pr_go rfl (s_iload_n rfl) ?_
  refine pr_call rfl (s_invV rfl (g_o ho hoc) rfl rfl) (r_lay ho hoc hcl (k := k) (by omega)) ?_
  refine pr_go rfl s_iconst ?_
  refine pr_go rfl (s_istore (lv' := [(4, .int (nI 0)), (0, .ref o), (1, .int (nI k)), (2, .int x), (3, .int y)]) rfl) ?_
  exact l_tellP ho hoc hcl hk 40 0 _ rfl
/-- what telling a new point makes of the row -/
def tnF (f : Nat → Int32) (k : Nat) (x y : Int32) : Nat → Int32 := upd (taF f k x y) (3 + 4 * k + 3) (nI 0)
theorem frG_le {f : Nat → Int32} : ∀ {m k : Nat}, k + m = 40 → frG f m k < 40 ∨ frG f m k = 4294967295 := by
  intro m
  induction m with
  | zero => intro k _; exact .inr rfl
  | succ m ih =>
    intro k hk
    cases h : isP f k with
    | true =>
      rw [frG_t h]
      exact ih (by omega)
    | false =>
      rw [frG_f h]
      exact .inl (by omega)
theorem ptG_le {f : Nat → Int32} {x y : Int32} : ∀ {m k : Nat}, k + m = 40 → ptG f x y m k < 40 ∨ ptG f x y m k = 4294967295 := by
  intro m
  induction m with
  | zero => intro k _; exact .inr rfl
  | succ m ih =>
    intro k hk
    cases h : (isP f k && (decide (xF f k = x) && decide (yF f k = y))) with
    | true =>
      rw [ptG_t h]
      exact .inl (by omega)
    | false =>
      rw [ptG_f h]
      exact ih (by omega)
theorem r_tellNew0 {w : pW} {o c : Nat} {fs : List Value} {f : Nat → Int32} (ho : w[o]? = some (.inr (9, .ref c :: fs))) (hoc : o ≠ c) (hcl : c < w.length) {x y : Int32} (hf : frG f 36 4 = 4294967295) : pRun 230 [.ref o, .int x, .int y] (gA w c f) (some (.int (nI 4294967295))) (gA w c f) := by
  refine pr_run rfl ?_
  refine pr_go rfl (s_aload_n rfl) ?_
  refine pr_call rfl (s_invV rfl (g_o ho hoc) rfl rfl) (r_free ho hoc hcl) ?_
  refine pr_go rfl (s_istore_n (lv' := [(3, .int (nI (frG f 36 4))), (0, .ref o), (1, .int x), (2, .int y)]) rfl) ?_
  refine pr_go rfl (s_iload_n rfl) ?_
  refine pr_go rfl s_iconst ?_
  refine pr_go rfl (s_icmp_eq_t (by rw [hf])) ?_
  refine pr_go rfl s_iconst ?_
  exact pr_retE (r' := some (.int (nI 4294967295))) rfl s_retI rfl
theorem r_tellNew1 {w : pW} {o c : Nat} {fs : List Value} {f : Nat → Int32} (ho : w[o]? = some (.inr (9, .ref c :: fs))) (hoc : o ≠ c) (hcl : c < w.length) {x y : Int32} (hf : frG f 36 4 < 40) (hpt : ptG f x y 40 0 < 40) : pRun 230 [.ref o, .int x, .int y] (gA w c f) (some (.int (nI 4294967295))) (gA w c f) := by
  refine pr_run rfl ?_
  refine pr_go rfl (s_aload_n rfl) ?_
  refine pr_call rfl (s_invV rfl (g_o ho hoc) rfl rfl) (r_free ho hoc hcl) ?_
  refine pr_go rfl (s_istore_n (lv' := [(3, .int (nI (frG f 36 4))), (0, .ref o), (1, .int x), (2, .int y)]) rfl) ?_
  refine pr_go rfl (s_iload_n rfl) ?_
  refine pr_go rfl s_iconst ?_
  refine pr_go rfl (s_icmp_eq_f (nI_none (by omega))) ?_
  refine pr_go rfl (s_aload_n rfl) ?_
  refine pr_go rfl (s_iload_n rfl) ?_
  refine pr_go rfl (s_iload_n rfl) ?_
  refine pr_call rfl (s_invV rfl (g_o ho hoc) rfl rfl) (r_pointAt ho hoc hcl) ?_
  refine pr_go rfl s_iconst ?_
  refine pr_go rfl (s_icmp_eq_f (nI_none (by omega))) ?_
  refine pr_go rfl s_iconst ?_
  exact pr_retE (r' := some (.int (nI 4294967295))) rfl s_retI rfl
theorem r_tellNew2 {w : pW} {o c : Nat} {fs : List Value} {f : Nat → Int32} (ho : w[o]? = some (.inr (9, .ref c :: fs))) (hoc : o ≠ c) (hcl : c < w.length) {k : Nat} {x y : Int32} (hf : frG f 36 4 = k) (hk : k < 40) (hpt : ptG f x y 40 0 = 4294967295) : pRun 230 [.ref o, .int x, .int y] (gA w c f) (some (.int (nI k))) (gA w c (tnF f k x y)) := by
  refine pr_run rfl ?_
  refine pr_go rfl (s_aload_n rfl) ?_
  refine pr_call rfl (s_invV rfl (g_o ho hoc) rfl rfl) (by have h := r_free ho hoc hcl (f := f); rw [hf] at h; exact h) ?_
  refine pr_go rfl (s_istore_n (lv' := [(3, .int (nI k)), (0, .ref o), (1, .int x), (2, .int y)]) rfl) ?_
  refine pr_go rfl (s_iload_n rfl) ?_
  refine pr_go rfl s_iconst ?_
  refine pr_go rfl (s_icmp_eq_f (nI_none (by omega))) ?_
  refine pr_go rfl (s_aload_n rfl) ?_
  refine pr_go rfl (s_iload_n rfl) ?_
  refine pr_go rfl (s_iload_n rfl) ?_
  refine pr_call rfl (s_invV rfl (g_o ho hoc) rfl rfl) (r_pointAt ho hoc hcl) ?_
  refine pr_go rfl s_iconst ?_
  refine pr_go rfl (s_icmp_eq_t (by rw [hpt])) ?_
  refine pr_go rfl (s_aload_n rfl) ?_
  refine pr_go rfl (s_iload_n rfl) ?_
  refine pr_go rfl (s_iload_n rfl) ?_
  refine pr_go rfl (s_iload_n rfl) ?_
  refine pr_call rfl (s_invV rfl (g_o ho hoc) rfl rfl) (r_tellAt ho hoc hcl hk) ?_
  refine pr_go rfl (s_aload_n rfl) ?_
  refine pr_go rfl (s_getf (g_o ho hoc) rfl) ?_
  refine pr_go rfl s_iconst ?_
  refine pr_go rfl s_iconst ?_
  refine pr_go rfl (s_iload_n rfl) ?_
  refine pr_go rfl (s_imulN (c := 4 * k) rfl) ?_
  refine pr_go rfl (s_iaddN (c := 3 + (4 * k)) rfl) ?_
  refine pr_go rfl s_iconst ?_
  refine pr_go rfl (s_iaddN (c := (3 + (4 * k)) + 3) rfl) ?_
  refine pr_go rfl s_iconst ?_
  refine pr_go rfl (s_iastN (g_c hcl) (by omega) (by decide) g_s) ?_
  refine pr_go rfl (s_iload_n rfl) ?_
  exact pr_retE (r' := some (.int (nI k))) rfl s_retI rfl
