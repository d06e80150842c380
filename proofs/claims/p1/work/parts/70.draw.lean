/-! THE REFERENCE'S POINTS: drawing a place, telling a point. Rows laid by program (wip/tools/lay.py, mk66.py). -/
/-- a world whose cell c is the reference's long row -/
def gA (w : pW) (c : Nat) (f : Nat → Int32) : pW := w.set c (.inl (0, 37340, .inl f))
theorem g_o {w : pW} {o c : Nat} {fs : List Value} {f : Nat → Int32} (ho : w[o]? = some (.inr (9, .ref c :: fs))) (h : o ≠ c) : (gA w c f)[o]? = some (.inr (9, .ref c :: fs)) := by
  unfold gA
  rw [List.getElem?_set_ne (fun e => h e.symm)]
  exact ho
theorem g_c {w : pW} {c : Nat} {f : Nat → Int32} (h : c < w.length) : (gA w c f)[c]? = some (.inl (0, 37340, .inl f)) := by
  unfold gA
  rw [List.getElem?_set_self h]
theorem g_s {w : pW} {c : Nat} {f g : Nat → Int32} : (gA w c f).set c (.inl (0, 37340, .inl g)) = gA w c g := by
  unfold gA
  rw [List.set_set]
def dG (g : Nat) : Nat := (g * 827 + 641) % 30047
theorem r_draw {w : pW} {o c : Nat} {fs : List Value} {f : Nat → Int32} (ho : w[o]? = some (.inr (9, .ref c :: fs))) (hoc : o ≠ c) (hcl : c < w.length) {g m : Nat} (hg : f 2 = nI g) (hb : g < 30047) (hm : m ≤ 1000) : pRun 244 [.ref o, .int (nI m)] (gA w c f) (some (.int (nI (dG g % (2 * m + 1)) - nI m))) (gA w c (upd f 2 (nI (dG g)))) := by
  refine pr_run rfl ?_
  have hd : dG g < 30047 := Nat.mod_lt _ (by decide)
  refine pr_go rfl (s_aload_n rfl) ?_
  refine pr_go rfl (s_getf (g_o ho hoc) rfl) ?_
  refine pr_go rfl s_iconst ?_
  refine pr_go rfl (s_aload_n rfl) ?_
  refine pr_go rfl (s_getf (g_o ho hoc) rfl) ?_
  refine pr_go rfl s_iconst ?_
  refine pr_go rfl (s_ialdN (v := nI g) (g_c hcl) (by omega) (by decide) rfl hg) ?_
  refine pr_go rfl s_sipush ?_
  refine pr_go rfl (s_imulN (c := g * 827) rfl) ?_
  refine pr_go rfl s_sipush ?_
  refine pr_go rfl (s_iaddN (c := (g * 827) + 641) rfl) ?_
  refine pr_go rfl s_sipush ?_
  refine pr_go rfl (s_iremN (c := ((g * 827) + 641) % 30047) (by omega) (by omega) (by omega) rfl) ?_
  refine pr_go rfl (s_iastN (g_c hcl) (by omega) (by decide) g_s) ?_
  refine pr_go rfl (s_aload_n rfl) ?_
  refine pr_go rfl (s_getf (g_o ho hoc) rfl) ?_
  refine pr_go rfl s_iconst ?_
  refine pr_go rfl (s_ialdN (v := nI (dG g)) (g_c hcl) (by omega) (by decide) rfl (by show upd f 2 _ 2 = _; unfold upd; rw [if_pos rfl]; rfl)) ?_
  refine pr_go rfl s_iconst ?_
  refine pr_go rfl (s_iload_n rfl) ?_
  refine pr_go rfl (s_imulN (c := 2 * m) rfl) ?_
  refine pr_go rfl s_iconst ?_
  refine pr_go rfl (s_iaddN (c := (2 * m) + 1) rfl) ?_
  refine pr_go rfl (s_iremN (c := (dG g) % ((2 * m) + 1)) (by omega) (by omega) (by omega) rfl) ?_
  refine pr_go rfl (s_iload_n rfl) ?_
  refine pr_go rfl s_isub ?_
  exact pr_retE (r' := some (.int ((nI ((dG g) % ((2 * m) + 1))) - (nI m)))) rfl s_retI (rfl)
def laF (f : Nat → Int32) (k : Nat) (x y : Int32) : Nat → Int32 := upd (upd (upd f (3 + 4 * k) (nI 1)) (3 + 4 * k + 1) x) (3 + 4 * k + 2) y
theorem r_lay {w : pW} {o c : Nat} {fs : List Value} {f : Nat → Int32} (ho : w[o]? = some (.inr (9, .ref c :: fs))) (hoc : o ≠ c) (hcl : c < w.length) {k : Nat} {x y : Int32} (hk : k < 40) : pRun 195 [.ref o, .int (nI k), .int x, .int y] (gA w c f) none (gA w c (laF f k x y)) := by
  refine pr_run rfl ?_
  refine pr_go rfl (s_aload_n rfl) ?_
  refine pr_go rfl (s_getf (g_o ho hoc) rfl) ?_
  refine pr_go rfl s_iconst ?_
  refine pr_go rfl s_iconst ?_
  refine pr_go rfl (s_iload_n rfl) ?_
  refine pr_go rfl (s_imulN (c := 4 * k) rfl) ?_
  refine pr_go rfl (s_iaddN (c := 3 + (4 * k)) rfl) ?_
  refine pr_go rfl s_iconst ?_
  refine pr_go rfl (s_iastN (g_c hcl) (by omega) (by decide) g_s) ?_
  refine pr_go rfl (s_aload_n rfl) ?_
  refine pr_go rfl (s_getf (g_o ho hoc) rfl) ?_
  refine pr_go rfl s_iconst ?_
  refine pr_go rfl s_iconst ?_
  refine pr_go rfl (s_iload_n rfl) ?_
  refine pr_go rfl (s_imulN (c := 4 * k) rfl) ?_
  refine pr_go rfl (s_iaddN (c := 3 + (4 * k)) rfl) ?_
  refine pr_go rfl s_iconst ?_
  refine pr_go rfl (s_iaddN (c := (3 + (4 * k)) + 1) rfl) ?_
  refine pr_go rfl (s_iload_n rfl) ?_
  refine pr_go rfl (s_iastN (g_c hcl) (by omega) (by decide) g_s) ?_
  refine pr_go rfl (s_aload_n rfl) ?_
  refine pr_go rfl (s_getf (g_o ho hoc) rfl) ?_
  refine pr_go rfl s_iconst ?_
  refine pr_go rfl s_iconst ?_
  refine pr_go rfl (s_iload_n rfl) ?_
  refine pr_go rfl (s_imulN (c := 4 * k) rfl) ?_
  refine pr_go rfl (s_iaddN (c := 3 + (4 * k)) rfl) ?_
  refine pr_go rfl s_iconst ?_
  refine pr_go rfl (s_iaddN (c := (3 + (4 * k)) + 2) rfl) ?_
  refine pr_go rfl (s_iload_n rfl) ?_
  refine pr_go rfl (s_iastN (g_c hcl) (by omega) (by decide) g_s) ?_
  exact pr_ret rfl rfl
def fnF (f : Nat → Int32) (p q : Nat) (v : Int32) : Nat → Int32 := upd (upd f (163 + 40 * p + q) v) (163 + 40 * q + p) v
theorem r_fixNow {w : pW} {o c : Nat} {fs : List Value} {f : Nat → Int32} (ho : w[o]? = some (.inr (9, .ref c :: fs))) (hoc : o ≠ c) (hcl : c < w.length) {p q : Nat} {v : Int32} (hp : p < 40) (hq : q < 40) : pRun 197 [.ref o, .int (nI p), .int (nI q), .int v] (gA w c f) none (gA w c (fnF f p q v)) := by
  refine pr_run rfl ?_
  refine pr_go rfl (s_aload_n rfl) ?_
  refine pr_go rfl (s_getf (g_o ho hoc) rfl) ?_
  refine pr_go rfl s_sipush ?_
  refine pr_go rfl s_bipush ?_
  refine pr_go rfl (s_iload_n rfl) ?_
  refine pr_go rfl (s_imulN (c := 40 * p) rfl) ?_
  refine pr_go rfl (s_iaddN (c := 163 + (40 * p)) rfl) ?_
  refine pr_go rfl (s_iload_n rfl) ?_
  refine pr_go rfl (s_iaddN (c := (163 + (40 * p)) + q) rfl) ?_
  refine pr_go rfl (s_iload_n rfl) ?_
  refine pr_go rfl (s_iastN (g_c hcl) (by omega) (by decide) g_s) ?_
  refine pr_go rfl (s_aload_n rfl) ?_
  refine pr_go rfl (s_getf (g_o ho hoc) rfl) ?_
  refine pr_go rfl s_sipush ?_
  refine pr_go rfl s_bipush ?_
  refine pr_go rfl (s_iload_n rfl) ?_
  refine pr_go rfl (s_imulN (c := 40 * q) rfl) ?_
  refine pr_go rfl (s_iaddN (c := 163 + (40 * q)) rfl) ?_
  refine pr_go rfl (s_iload_n rfl) ?_
  refine pr_go rfl (s_iaddN (c := (163 + (40 * q)) + p) rfl) ?_
  refine pr_go rfl (s_iload_n rfl) ?_
  refine pr_go rfl (s_iastN (g_c hcl) (by omega) (by decide) g_s) ?_
  exact pr_ret rfl rfl
def frG (f : Nat → Int32) : Nat → Nat → Nat
  | 0, _ => 4294967295
  | m + 1, k => bif isP f k then frG f m (k + 1) else k
theorem frG_t {f : Nat → Int32} {m k : Nat} (h : isP f k = true) : frG f (m + 1) k = frG f m (k + 1) := by
  show (bif isP f k then frG f m (k + 1) else k) = _
  rw [h]
  rfl
theorem frG_f {f : Nat → Int32} {m k : Nat} (h : isP f k = false) : frG f (m + 1) k = k := by
  show (bif isP f k then frG f m (k + 1) else k) = _
  rw [h]
  rfl
theorem l_free {w : pW} {o c : Nat} {fs : List Value} {f : Nat → Int32} (ho : w[o]? = some (.inr (9, .ref c :: fs))) (hoc : o ≠ c) (hcl : c < w.length) : ∀ (m k : Nat), k + m = 40 → pRest 199 (2, [(1, .int (nI k)), (0, .ref o)], [], gA w c f) (some (.int (nI (frG f m k)))) (gA w c f) := by
  intro m
  induction m with
  | zero =>
    intro k hk
    obtain rfl : k = 40 := by omega
    refine pr_go rfl (s_iload_n rfl) ?_
    refine pr_go rfl s_bipush ?_
    refine pr_go rfl (s_icmp_ge_t ((nI_leI (by omega) (by omega)).mpr (by omega))) ?_
    refine pr_go rfl (s_iload_n rfl) ?_
    refine pr_go rfl s_bipush ?_
    refine pr_go rfl (s_icmp_ge_t ((nI_leI (by omega) (by omega)).mpr (by omega))) ?_
    refine pr_go rfl s_iconst ?_
    exact pr_retE (r' := some (.int (nI 4294967295))) rfl s_retI rfl
  | succ m ih =>
    intro k hk
    cases hI : isP f k with
    | false =>
      rw [frG_f hI]
      refine pr_go rfl (s_iload_n rfl) ?_
      refine pr_go rfl s_bipush ?_
      refine pr_go rfl (s_icmp_ge_f (fun e => absurd ((nI_leI (by omega) (by omega)).mp e) (by omega))) ?_
      refine pr_go rfl (s_aload_n rfl) ?_
      refine pr_go rfl (s_iload_n rfl) ?_
      refine pr_call rfl (s_invV rfl (g_o ho hoc) rfl rfl) (r_isPoint (g_o ho hoc) (g_c hcl) (by decide) (by decide) (k := k) (by omega)) ?_
      refine pr_go rfl (s_if_eq_t (by rw [hI]; rfl)) ?_
      refine pr_go rfl (s_iload_n rfl) ?_
      refine pr_go rfl s_bipush ?_
      refine pr_go rfl (s_icmp_ge_f (fun e => absurd ((nI_leI (by omega) (by omega)).mp e) (by omega))) ?_
      refine pr_go rfl (s_iload_n rfl) ?_
      refine pr_go rfl s_goto ?_
      exact pr_retE (r' := some (.int (nI k))) rfl s_retI rfl
    | true =>
      rw [frG_t hI]
      refine pr_go rfl (s_iload_n rfl) ?_
      refine pr_go rfl s_bipush ?_
      refine pr_go rfl (s_icmp_ge_f (fun e => absurd ((nI_leI (by omega) (by omega)).mp e) (by omega))) ?_
      refine pr_go rfl (s_aload_n rfl) ?_
      refine pr_go rfl (s_iload_n rfl) ?_
      refine pr_call rfl (s_invV rfl (g_o ho hoc) rfl rfl) (r_isPoint (g_o ho hoc) (g_c hcl) (by decide) (by decide) (k := k) (by omega)) ?_
      refine pr_go rfl (s_if_eq_f (by rw [hI]; decide)) ?_
      refine pr_go rfl (s_iincN (y := nI (k + 1)) rfl (nI_add _ _) (lv' := [(1, .int (nI (k + 1))), (0, .ref o)]) rfl) ?_
      refine pr_go rfl s_goto ?_
      exact ih (k + 1) (by omega)
theorem r_free {w : pW} {o c : Nat} {fs : List Value} {f : Nat → Int32} (ho : w[o]? = some (.inr (9, .ref c :: fs))) (hoc : o ≠ c) (hcl : c < w.length) : pRun 199 [.ref o] (gA w c f) (some (.int (nI (frG f 36 4)))) (gA w c f) := by
  refine pr_run rfl ?_
  refine pr_go rfl s_iconst ?_
  refine pr_go rfl (s_istore_n (lv' := [(1, .int (nI 4)), (0, .ref o)]) rfl) ?_
  exact l_free ho hoc hcl 36 4 rfl
def ptG (f : Nat → Int32) (x y : Int32) : Nat → Nat → Nat
  | 0, _ => 4294967295
  | m + 1, k => bif isP f k && (decide (xF f k = x) && decide (yF f k = y)) then k else ptG f x y m (k + 1)
theorem ptG_f {f : Nat → Int32} {x y : Int32} {m k : Nat} (h : (isP f k && (decide (xF f k = x) && decide (yF f k = y))) = false) : ptG f x y (m + 1) k = ptG f x y m (k + 1) := by
  show (bif isP f k && (decide (xF f k = x) && decide (yF f k = y)) then k else ptG f x y m (k + 1)) = _
  rw [h]
  rfl
theorem ptG_t {f : Nat → Int32} {x y : Int32} {m k : Nat} (h : (isP f k && (decide (xF f k = x) && decide (yF f k = y))) = true) : ptG f x y (m + 1) k = k := by
  show (bif isP f k && (decide (xF f k = x) && decide (yF f k = y)) then k else ptG f x y m (k + 1)) = _
  rw [h]
  rfl
theorem l_pointAt {w : pW} {o c : Nat} {fs : List Value} {f : Nat → Int32} (ho : w[o]? = some (.inr (9, .ref c :: fs))) (hoc : o ≠ c) (hcl : c < w.length) {x y : Int32} : ∀ (m k : Nat), k + m = 40 → pRest 198 (2, [(3, .int (nI k)), (0, .ref o), (1, .int x), (2, .int y)], [], gA w c f) (some (.int (nI (ptG f x y m k)))) (gA w c f) := by
  intro m
  induction m with
  | zero =>
    intro k hk
    obtain rfl : k = 40 := by omega
    refine pr_go rfl (s_iload_n rfl) ?_
    refine pr_go rfl s_bipush ?_
    refine pr_go rfl (s_icmp_ge_t ((nI_leI (by omega) (by omega)).mpr (by omega))) ?_
    refine pr_go rfl s_iconst ?_
    exact pr_retE (r' := some (.int (nI 4294967295))) rfl s_retI rfl
  | succ m ih =>
    intro k hk
    cases hI : isP f k with
    | false =>
      rw [ptG_f (by rw [hI]; rfl)]
      refine pr_go rfl (s_iload_n rfl) ?_
      refine pr_go rfl s_bipush ?_
      refine pr_go rfl (s_icmp_ge_f (fun e => absurd ((nI_leI (by omega) (by omega)).mp e) (by omega))) ?_
      refine pr_go rfl (s_aload_n rfl) ?_
      refine pr_go rfl (s_iload_n rfl) ?_
      refine pr_call rfl (s_invV rfl (g_o ho hoc) rfl rfl) (r_isPoint (g_o ho hoc) (g_c hcl) (by decide) (by decide) (k := k) (by omega)) ?_
      refine pr_go rfl (s_if_eq_t (by rw [hI]; rfl)) ?_
      refine pr_go rfl (s_iincN (y := nI (k + 1)) rfl (nI_add _ _) (lv' := [(3, .int (nI (k + 1))), (0, .ref o), (1, .int x), (2, .int y)]) rfl) ?_
      refine pr_go rfl s_goto ?_
      exact ih (k + 1) (by omega)
    | true =>
      by_cases hX : xF f k = x
      · by_cases hY : yF f k = y
        · rw [ptG_t (by rw [hI, decide_eq_true hX, decide_eq_true hY]; rfl)]
          refine pr_go rfl (s_iload_n rfl) ?_
          refine pr_go rfl s_bipush ?_
          refine pr_go rfl (s_icmp_ge_f (fun e => absurd ((nI_leI (by omega) (by omega)).mp e) (by omega))) ?_
          refine pr_go rfl (s_aload_n rfl) ?_
          refine pr_go rfl (s_iload_n rfl) ?_
          refine pr_call rfl (s_invV rfl (g_o ho hoc) rfl rfl) (r_isPoint (g_o ho hoc) (g_c hcl) (by decide) (by decide) (k := k) (by omega)) ?_
          refine pr_go rfl (s_if_eq_f (by rw [hI]; decide)) ?_
          refine pr_go rfl (s_aload_n rfl) ?_
          refine pr_go rfl (s_iload_n rfl) ?_
          refine pr_call rfl (s_invV rfl (g_o ho hoc) rfl rfl) (r_xOf (g_o ho hoc) (g_c hcl) (by decide) (by decide) (k := k) (by omega)) ?_
          refine pr_go rfl (s_iload_n rfl) ?_
          refine pr_go rfl (s_icmp_ne_f (fun e => e hX)) ?_
          refine pr_go rfl (s_aload_n rfl) ?_
          refine pr_go rfl (s_iload_n rfl) ?_
          refine pr_call rfl (s_invV rfl (g_o ho hoc) rfl rfl) (r_yOf (g_o ho hoc) (g_c hcl) (by decide) (by decide) (k := k) (by omega)) ?_
          refine pr_go rfl (s_iload_n rfl) ?_
          refine pr_go rfl (s_icmp_ne_f (fun e => e hY)) ?_
          refine pr_go rfl (s_iload_n rfl) ?_
          exact pr_retE (r' := some (.int (nI k))) rfl s_retI rfl
        · rw [ptG_f (by rw [hI, decide_eq_true hX, decide_eq_false hY]; rfl)]
          refine pr_go rfl (s_iload_n rfl) ?_
          refine pr_go rfl s_bipush ?_
          refine pr_go rfl (s_icmp_ge_f (fun e => absurd ((nI_leI (by omega) (by omega)).mp e) (by omega))) ?_
          refine pr_go rfl (s_aload_n rfl) ?_
          refine pr_go rfl (s_iload_n rfl) ?_
          refine pr_call rfl (s_invV rfl (g_o ho hoc) rfl rfl) (r_isPoint (g_o ho hoc) (g_c hcl) (by decide) (by decide) (k := k) (by omega)) ?_
          refine pr_go rfl (s_if_eq_f (by rw [hI]; decide)) ?_
          refine pr_go rfl (s_aload_n rfl) ?_
          refine pr_go rfl (s_iload_n rfl) ?_
          refine pr_call rfl (s_invV rfl (g_o ho hoc) rfl rfl) (r_xOf (g_o ho hoc) (g_c hcl) (by decide) (by decide) (k := k) (by omega)) ?_
          refine pr_go rfl (s_iload_n rfl) ?_
          refine pr_go rfl (s_icmp_ne_f (fun e => e hX)) ?_
          refine pr_go rfl (s_aload_n rfl) ?_
          refine pr_go rfl (s_iload_n rfl) ?_
          refine pr_call rfl (s_invV rfl (g_o ho hoc) rfl rfl) (r_yOf (g_o ho hoc) (g_c hcl) (by decide) (by decide) (k := k) (by omega)) ?_
          refine pr_go rfl (s_iload_n rfl) ?_
          refine pr_go rfl (s_icmp_ne_t hY) ?_
          refine pr_go rfl (s_iincN (y := nI (k + 1)) rfl (nI_add _ _) (lv' := [(3, .int (nI (k + 1))), (0, .ref o), (1, .int x), (2, .int y)]) rfl) ?_
          refine pr_go rfl s_goto ?_
          exact ih (k + 1) (by omega)
      · rw [ptG_f (by rw [hI, decide_eq_false hX]; rfl)]
        refine pr_go rfl (s_iload_n rfl) ?_
        refine pr_go rfl s_bipush ?_
        refine pr_go rfl (s_icmp_ge_f (fun e => absurd ((nI_leI (by omega) (by omega)).mp e) (by omega))) ?_
        refine pr_go rfl (s_aload_n rfl) ?_
        refine pr_go rfl (s_iload_n rfl) ?_
        refine pr_call rfl (s_invV rfl (g_o ho hoc) rfl rfl) (r_isPoint (g_o ho hoc) (g_c hcl) (by decide) (by decide) (k := k) (by omega)) ?_
        refine pr_go rfl (s_if_eq_f (by rw [hI]; decide)) ?_
        refine pr_go rfl (s_aload_n rfl) ?_
        refine pr_go rfl (s_iload_n rfl) ?_
        refine pr_call rfl (s_invV rfl (g_o ho hoc) rfl rfl) (r_xOf (g_o ho hoc) (g_c hcl) (by decide) (by decide) (k := k) (by omega)) ?_
        refine pr_go rfl (s_iload_n rfl) ?_
        refine pr_go rfl (s_icmp_ne_t hX) ?_
        refine pr_go rfl (s_iincN (y := nI (k + 1)) rfl (nI_add _ _) (lv' := [(3, .int (nI (k + 1))), (0, .ref o), (1, .int x), (2, .int y)]) rfl) ?_
        refine pr_go rfl s_goto ?_
        exact ih (k + 1) (by omega)
theorem r_pointAt {w : pW} {o c : Nat} {fs : List Value} {f : Nat → Int32} (ho : w[o]? = some (.inr (9, .ref c :: fs))) (hoc : o ≠ c) (hcl : c < w.length) {x y : Int32} : pRun 198 [.ref o, .int x, .int y] (gA w c f) (some (.int (nI (ptG f x y 40 0)))) (gA w c f) := by
  refine pr_run rfl ?_
  refine pr_go rfl s_iconst ?_
  refine pr_go rfl (s_istore_n (lv' := [(3, .int (nI 0)), (0, .ref o), (1, .int x), (2, .int y)]) rfl) ?_
  exact l_pointAt ho hoc hcl 40 0 rfl
theorem s_dup2i {pc a : Nat} {i : Int32} {lv : pLv} {st : List Value} {w : pW} : pS1 .dup2 pc [] lv (.int i :: .ref a :: st) w = some (.inl (pc + 1, lv, .int i :: .ref a :: .int i :: .ref a :: st, w)) := rfl
def kpF (f : Nat → Int32) (k : Nat) : Nat → Int32 := fun j => if 1780 ≤ j ∧ j < 1780 + k then f (j - 1778) else f j
theorem kp_0 {f : Nat → Int32} : kpF f 0 = f := by
  funext j
  unfold kpF
  rw [if_neg (by omega)]
theorem kp_s {f : Nat → Int32} {k : Nat} : upd (kpF f k) (1780 + k) (f (2 + k)) = kpF f (k + 1) := by
  funext j
  unfold upd kpF
  by_cases e : j = 1780 + k
  · rw [if_pos e, if_pos (by omega), show j - 1778 = 2 + k by omega]
  · rw [if_neg e]
    by_cases e2 : 1780 ≤ j ∧ j < 1780 + k
    · rw [if_pos e2, if_pos (by omega)]
    · rw [if_neg e2, if_neg (by omega)]
theorem kp_lo {f : Nat → Int32} {k j : Nat} (h : j < 1780) : kpF f k j = f j := by
  unfold kpF
  rw [if_neg (by omega)]
theorem r_stepAt0 {w : pW} : pRun 224 [.int (nI 0), .int (nI 0)] w (some (.int (nI 1780))) w := by
  refine pr_run rfl ?_
  refine pr_go rfl s_sipush ?_
  refine pr_go rfl s_sipush ?_
  refine pr_go rfl (s_iload_n rfl) ?_
  refine pr_go rfl (s_iload_n rfl) ?_
  refine pr_go rfl (s_iaddN (c := 0) rfl) ?_
  refine pr_go rfl s_bipush ?_
  refine pr_go rfl (s_iremN (c := 0) (by omega) (by omega) (by omega) rfl) ?_
  refine pr_go rfl (s_imulN (c := 0) rfl) ?_
  refine pr_go rfl (s_iaddN (c := 1780) rfl) ?_
  exact pr_retE (r' := some (.int (nI 1780))) rfl s_retI rfl
theorem l_keep {w : pW} {o c : Nat} {fs : List Value} {f : Nat → Int32} (ho : w[o]? = some (.inr (9, .ref c :: fs))) (hoc : o ≠ c) (hcl : c < w.length) {r : Option Value} {w1 : pW} (K : pRest 225 (85, [(2, .int (nI 1778)), (1, .int (nI 1780)), (0, .ref o)], [], gA w c (kpF f 1778)) r w1) : ∀ (m k : Nat), k + m = 1778 → pRest 225 (56, [(2, .int (nI k)), (1, .int (nI 1780)), (0, .ref o)], [], gA w c (kpF f k)) r w1 := by
  intro m
  induction m with
  | zero =>
    intro k hk
    obtain rfl : k = 1778 := by omega
    refine pr_go rfl (s_iload_n rfl) ?_
    refine pr_go rfl s_sipush ?_
    refine pr_go rfl (s_icmp_ge_t ((nI_leI (by omega) (by omega)).mpr (by omega))) ?_
    exact K
  | succ m ih =>
    intro k hk
    have ih := ih (k + 1) (by omega)
    rw [← kp_s] at ih
    refine pr_go rfl (s_iload_n rfl) ?_
    refine pr_go rfl s_sipush ?_
    refine pr_go rfl (s_icmp_ge_f (fun e => absurd ((nI_leI (by omega) (by omega)).mp e) (by omega))) ?_
    refine pr_go rfl (s_aload_n rfl) ?_
    refine pr_go rfl (s_getf (g_o ho hoc) rfl) ?_
    refine pr_go rfl (s_iload_n rfl) ?_
    refine pr_go rfl (s_iload_n rfl) ?_
    refine pr_go rfl (s_iaddN (c := 1780 + k) rfl) ?_
    refine pr_go rfl (s_aload_n rfl) ?_
    refine pr_go rfl (s_getf (g_o ho hoc) rfl) ?_
    refine pr_go rfl s_iconst ?_
    refine pr_go rfl (s_iload_n rfl) ?_
    refine pr_go rfl (s_iaddN (c := 2 + k) rfl) ?_
    refine pr_go rfl (s_ialdN (v := f (2 + k)) (g_c hcl) (by omega) (by decide) rfl (kp_lo (by omega))) ?_
    refine pr_go rfl (s_iastN (g_c hcl) (by omega) (by decide) g_s) ?_
    refine pr_go rfl (s_iincN (y := nI (k + 1)) rfl (nI_add _ _) (lv' := [(2, .int (nI (k + 1))), (1, .int (nI 1780)), (0, .ref o)]) rfl) ?_
    refine pr_go rfl s_goto ?_
    exact ih
theorem r_keep0 {w : pW} {o c : Nat} {fs : List Value} {f : Nat → Int32} (ho : w[o]? = some (.inr (9, .ref c :: fs))) (hoc : o ≠ c) (hcl : c < w.length) (h0 : f 0 = nI 0) (h1 : f 1 = nI 0) : pRun 225 [.ref o] (gA w c f) none (gA w c (upd (kpF f 1778) 0 (nI 1))) := by
  refine pr_run rfl ?_
  refine pr_go rfl (s_aload_n rfl) ?_
  refine pr_go rfl (s_getf (g_o ho hoc) rfl) ?_
  refine pr_go rfl s_iconst ?_
  refine pr_go rfl (s_ialdN (v := nI 0) (g_c hcl) (by omega) (by decide) rfl h0) ?_
  refine pr_go rfl s_bipush ?_
  refine pr_go rfl (s_icmp_ne_t (by decide)) ?_
  refine pr_go rfl (s_aload_n rfl) ?_
  refine pr_go rfl (s_getf (g_o ho hoc) rfl) ?_
  refine pr_go rfl s_iconst ?_
  refine pr_go rfl (s_ialdN (v := nI 0) (g_c hcl) (by omega) (by decide) rfl h1) ?_
  refine pr_go rfl (s_aload_n rfl) ?_
  refine pr_go rfl (s_getf (g_o ho hoc) rfl) ?_
  refine pr_go rfl s_iconst ?_
  refine pr_go rfl (s_ialdN (v := nI 0) (g_c hcl) (by omega) (by decide) rfl h0) ?_
  refine pr_call rfl (s_invS rfl rfl rfl) (r_stepAt0) ?_
  refine pr_go rfl (s_istore_n (lv' := [(1, .int (nI 1780)), (0, .ref o)]) rfl) ?_
  refine pr_go rfl s_iconst ?_
  refine pr_go rfl (s_istore_n (lv' := [(2, .int (nI 0)), (1, .int (nI 1780)), (0, .ref o)]) rfl) ?_
  rw [show gA w c f = gA w c (kpF f 0) from by rw [kp_0]]
  refine l_keep ho hoc hcl ?_ 1778 0 rfl
  refine pr_go rfl (s_aload_n rfl) ?_
  refine pr_go rfl (s_getf (g_o ho hoc) rfl) ?_
  refine pr_go rfl s_iconst ?_
  refine pr_go rfl s_dup2i ?_
  refine pr_go rfl (s_ialdN (v := nI 0) (g_c hcl) (by omega) (by decide) rfl ((kp_lo (by omega)).trans h0)) ?_
  refine pr_go rfl s_iconst ?_
  refine pr_go rfl (s_iaddN (c := 1) rfl) ?_
  refine pr_go rfl (s_iastN (g_c hcl) (by omega) (by decide) g_s) ?_
  exact pr_ret rfl rfl
