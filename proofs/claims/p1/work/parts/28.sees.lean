/-! WHAT THE REFERENCE SEES: between, across, clear, uncut. Rows laid by program (wip/tools/lay.py, mk28.py). -/
def alF (f : Nat → Int32) (p q : Nat) (x y : Int32) : Int32 := (xF f q - xF f p) * (x - xF f p) + (yF f q - yF f p) * (y - yF f p)
def betwF (f : Nat → Int32) (p q : Nat) (x y : Int32) : Bool := decide (sideF f p q x y = 0) && (!(decide (alF f p q x y ≤ 0)) && !(decide (squareF f p q ≤ alF f p q x y)))
def crossF (f : Nat → Int32) (p q r s : Nat) : Bool := apB (turnF f p q r) (turnF f p q s) && apB (turnF f r s p) (turnF f r s q)
def clP (f : Nat → Int32) (p q r : Nat) : Bool := !(isP f r && !(decide (r = p)) && !(decide (r = q)) && betwF f p q (xF f r) (yF f r))
def clearF (f : Nat → Int32) (p q : Nat) : Bool := (List.range' 0 40).all (clP f p q)
def unP (f : Nat → Int32) (p q r s : Nat) : Bool := !(!(decide (fxF f r s = 0)) && crossF f p q r s)
def uncutF (f : Nat → Int32) (p q : Nat) : Bool := (List.range' 0 40).all (fun r => (List.range' 0 r).all (unP f p q r))
def seesF (f : Nat → Int32) (p q : Nat) : Bool := clearF f p q && uncutF f p q
theorem r_isBetween {w : pW} {o c n : Nat} {f : Nat → Int32} {fs : List Value} (ho : w[o]? = some (.inr (9, .ref c :: fs))) (hc : w[c]? = some (.inl (0, n, .inl f))) (hn : 1780 ≤ n) (hn2 : n < 2 ^ 31) {p q : Nat} (hp : p < 40) (hq : q < 40) {x y : Int32} : pRun 203 [.ref o, .int (nI p), .int (nI q), .int x, .int y] w (some (.int (bI (betwF f p q x y)))) w := by
  refine pr_run rfl ?_
  refine pr_go rfl (s_aload_n rfl) ?_
  refine pr_go rfl (s_iload_n rfl) ?_
  refine pr_go rfl (s_iload_n rfl) ?_
  refine pr_go rfl (s_iload_n rfl) ?_
  refine pr_go rfl (s_iload rfl) ?_
  refine pr_call rfl (s_invV rfl ho rfl rfl) (r_sideOf ho hc hn hn2 (p := p) (q := q) (by omega) (by omega) (x := x) (y := y)) ?_
  by_cases h9 : sideF f p q x y = 0
  · skip
    refine pr_go rfl (s_if_eq_t h9) ?_
    refine pr_go rfl (s_aload_n rfl) ?_
    refine pr_go rfl (s_iload_n rfl) ?_
    refine pr_call rfl (s_invV rfl ho rfl rfl) (r_xOf ho hc hn hn2 (k := q) (by omega)) ?_
    refine pr_go rfl (s_aload_n rfl) ?_
    refine pr_go rfl (s_iload_n rfl) ?_
    refine pr_call rfl (s_invV rfl ho rfl rfl) (r_xOf ho hc hn hn2 (k := p) (by omega)) ?_
    refine pr_go rfl s_isub ?_
    refine pr_go rfl (s_iload_n rfl) ?_
    refine pr_go rfl (s_aload_n rfl) ?_
    refine pr_go rfl (s_iload_n rfl) ?_
    refine pr_call rfl (s_invV rfl ho rfl rfl) (r_xOf ho hc hn hn2 (k := p) (by omega)) ?_
    refine pr_go rfl s_isub ?_
    refine pr_go rfl s_imul ?_
    refine pr_go rfl (s_aload_n rfl) ?_
    refine pr_go rfl (s_iload_n rfl) ?_
    refine pr_call rfl (s_invV rfl ho rfl rfl) (r_yOf ho hc hn hn2 (k := q) (by omega)) ?_
    refine pr_go rfl (s_aload_n rfl) ?_
    refine pr_go rfl (s_iload_n rfl) ?_
    refine pr_call rfl (s_invV rfl ho rfl rfl) (r_yOf ho hc hn hn2 (k := p) (by omega)) ?_
    refine pr_go rfl s_isub ?_
    refine pr_go rfl (s_iload rfl) ?_
    refine pr_go rfl (s_aload_n rfl) ?_
    refine pr_go rfl (s_iload_n rfl) ?_
    refine pr_call rfl (s_invV rfl ho rfl rfl) (r_yOf ho hc hn hn2 (k := p) (by omega)) ?_
    refine pr_go rfl s_isub ?_
    refine pr_go rfl s_imul ?_
    refine pr_go rfl s_iadd ?_
    refine pr_go rfl (s_istore (lv' := [(5, .int ((((xF f q) - (xF f p)) * ((x) - (xF f p))) + (((yF f q) - (yF f p)) * ((y) - (yF f p))))), (0, .ref o), (1, .int (nI p)), (2, .int (nI q)), (3, .int x), (4, .int y)]) rfl) ?_
    refine pr_go rfl (s_iload rfl) ?_
    by_cases h58 : alF f p q x y ≤ 0
    · skip
      refine pr_go rfl (s_if_le_t h58) ?_
      refine pr_go rfl s_iconst ?_
      exact pr_retE (r' := some (.int (nI 0))) rfl s_ret0 (by unfold betwF bI; simp only [decide_eq_true h9, decide_eq_true h58]; rfl)
    · skip
      refine pr_go rfl (s_if_le_f h58) ?_
      refine pr_go rfl (s_iload rfl) ?_
      refine pr_go rfl (s_aload_n rfl) ?_
      refine pr_go rfl (s_iload_n rfl) ?_
      refine pr_go rfl (s_iload_n rfl) ?_
      refine pr_call rfl (s_invV rfl ho rfl rfl) (r_squareOf ho hc hn hn2 (p := p) (q := q) (by omega) (by omega)) ?_
      by_cases h69 : squareF f p q ≤ alF f p q x y
      · skip
        refine pr_go rfl (s_icmp_ge_t h69) ?_
        refine pr_go rfl s_iconst ?_
        exact pr_retE (r' := some (.int (nI 0))) rfl s_ret0 (by unfold betwF bI; simp only [decide_eq_true h9, decide_eq_false h58, decide_eq_true h69]; rfl)
      · skip
        refine pr_go rfl (s_icmp_ge_f h69) ?_
        refine pr_go rfl s_iconst ?_
        refine pr_go rfl s_goto ?_
        exact pr_retE (r' := some (.int (nI 1))) rfl s_ret1 (by unfold betwF bI; simp only [decide_eq_true h9, decide_eq_false h58, decide_eq_false h69]; rfl)
  · skip
    refine pr_go rfl (s_if_eq_f h9) ?_
    refine pr_go rfl s_iconst ?_
    exact pr_retE (r' := some (.int (nI 0))) rfl s_ret0 (by unfold betwF bI; simp only [decide_eq_false h9]; rfl)
theorem r_crosses {w : pW} {o c n : Nat} {f : Nat → Int32} {fs : List Value} (ho : w[o]? = some (.inr (9, .ref c :: fs))) (hc : w[c]? = some (.inl (0, n, .inl f))) (hn : 1780 ≤ n) (hn2 : n < 2 ^ 31) {p q : Nat} (hp : p < 40) (hq : q < 40) {r s : Nat} (hr : r < 40) (hs : s < 40) : pRun 206 [.ref o, .int (nI p), .int (nI q), .int (nI r), .int (nI s)] w (some (.int (bI (crossF f p q r s)))) w := by
  refine pr_run rfl ?_
  refine pr_go rfl (s_aload_n rfl) ?_
  refine pr_go rfl (s_iload_n rfl) ?_
  refine pr_go rfl (s_iload_n rfl) ?_
  refine pr_go rfl (s_iload_n rfl) ?_
  refine pr_call rfl (s_invV rfl ho rfl rfl) (r_turnOf ho hc hn hn2 (p := p) (q := q) (r := r) (by omega) (by omega) (by omega)) ?_
  refine pr_go rfl (s_aload_n rfl) ?_
  refine pr_go rfl (s_iload_n rfl) ?_
  refine pr_go rfl (s_iload_n rfl) ?_
  refine pr_go rfl (s_iload rfl) ?_
  refine pr_call rfl (s_invV rfl ho rfl rfl) (r_turnOf ho hc hn hn2 (p := p) (q := q) (r := s) (by omega) (by omega) (by omega)) ?_
  refine pr_call rfl (s_invS rfl rfl rfl) (r_areApart (v := turnF f p q r) (u := turnF f p q s)) ?_
  cases h18 : (apB (turnF f p q r) (turnF f p q s))
  · skip
    refine pr_go rfl (s_if_eq_t (by decide)) ?_
    refine pr_go rfl s_iconst ?_
    exact pr_retE (r' := some (.int (nI 0))) rfl s_ret0 (by unfold crossF bI; simp only [h18]; rfl)
  · skip
    refine pr_go rfl (s_if_eq_f (by decide)) ?_
    refine pr_go rfl (s_aload_n rfl) ?_
    refine pr_go rfl (s_iload_n rfl) ?_
    refine pr_go rfl (s_iload rfl) ?_
    refine pr_go rfl (s_iload_n rfl) ?_
    refine pr_call rfl (s_invV rfl ho rfl rfl) (r_turnOf ho hc hn hn2 (p := r) (q := s) (r := p) (by omega) (by omega) (by omega)) ?_
    refine pr_go rfl (s_aload_n rfl) ?_
    refine pr_go rfl (s_iload_n rfl) ?_
    refine pr_go rfl (s_iload rfl) ?_
    refine pr_go rfl (s_iload_n rfl) ?_
    refine pr_call rfl (s_invV rfl ho rfl rfl) (r_turnOf ho hc hn hn2 (p := r) (q := s) (r := q) (by omega) (by omega) (by omega)) ?_
    refine pr_call rfl (s_invS rfl rfl rfl) (r_areApart (v := turnF f r s p) (u := turnF f r s q)) ?_
    cases h40 : (apB (turnF f r s p) (turnF f r s q))
    · skip
      refine pr_go rfl (s_if_eq_t (by decide)) ?_
      refine pr_go rfl s_iconst ?_
      exact pr_retE (r' := some (.int (nI 0))) rfl s_ret0 (by unfold crossF bI; simp only [h18, h40]; rfl)
    · skip
      refine pr_go rfl (s_if_eq_f (by decide)) ?_
      refine pr_go rfl s_iconst ?_
      refine pr_go rfl s_goto ?_
      exact pr_retE (r' := some (.int (nI 1))) rfl s_ret1 (by unfold crossF bI; simp only [h18, h40]; rfl)
theorem l_isClear {w : pW} {o c n : Nat} {f : Nat → Int32} {fs : List Value} (ho : w[o]? = some (.inr (9, .ref c :: fs))) (hc : w[c]? = some (.inl (0, n, .inl f))) (hn : 1780 ≤ n) (hn2 : n < 2 ^ 31) {p q : Nat} (hp : p < 40) (hq : q < 40) : ∀ m r, r + m = 40 → pRest 207 (2, [(0, .ref o), (1, .int (nI p)), (2, .int (nI q)), (3, .int (nI r))], [], w) (some (.int (bI ((List.range' r m).all (clP f p q))))) w := by
  intro m
  induction m with
  | zero =>
    intro r hr
    have hr : r = 40 := by omega
    subst hr
    refine pr_go rfl (s_iload_n rfl) ?_
    refine pr_go rfl s_bipush ?_
    refine pr_go rfl (s_icmp_ge_t (Int32.le_refl _)) ?_
    refine pr_go rfl s_iconst ?_
    exact pr_retE (r' := some (.int (nI 1))) rfl s_ret1 (rfl)
  | succ m ih =>
    intro r hr
    rw [show (List.range' r (m + 1)).all (clP f p q) = (clP f p q r && (List.range' (r + 1) m).all (clP f p q)) from by rw [List.range'_succ, List.all_cons]]
    refine pr_go rfl (s_iload_n rfl) ?_
    refine pr_go rfl s_bipush ?_
    refine pr_go rfl (s_icmp_ge_f (nI_ge (by omega) (by omega))) ?_
    refine pr_go rfl (s_aload_n rfl) ?_
    refine pr_go rfl (s_iload_n rfl) ?_
    refine pr_call rfl (s_invV rfl ho rfl rfl) (r_isPoint ho hc hn hn2 (k := r) (by omega)) ?_
    cases h13 : isP f r
    · skip
      refine pr_go rfl (s_if_eq_t (by decide)) ?_
      refine pr_go rfl (s_iinc1 rfl (lv' := [(3, .int (nI (r + 1))), (0, .ref o), (1, .int (nI p)), (2, .int (nI q))]) (by rw [nI_1]; rfl)) ?_
      refine pr_go rfl s_goto ?_
      rw [show clP f p q r = true from by unfold clP; simp only [h13]; rfl, Bool.true_and]
      exact pr_less (lvLe_of rfl rfl (by repeat' (first | exact (fun _ h => absurd h List.not_mem_nil) | refine List.forall_mem_cons.mpr ⟨rfl, ?_⟩))) (ih (r + 1) (by omega))
    · skip
      refine pr_go rfl (s_if_eq_f (by decide)) ?_
      refine pr_go rfl (s_iload_n rfl) ?_
      refine pr_go rfl (s_iload_n rfl) ?_
      by_cases h18 : r = p
      · skip
        refine pr_go rfl (s_icmp_eq_t (by rw [h18])) ?_
        refine pr_go rfl (s_iinc1 rfl (lv' := [(3, .int (nI (r + 1))), (0, .ref o), (1, .int (nI p)), (2, .int (nI q))]) (by rw [nI_1]; rfl)) ?_
        refine pr_go rfl s_goto ?_
        rw [show clP f p q r = true from by unfold clP; simp only [h13, decide_eq_true h18]; rfl, Bool.true_and]
        exact pr_less (lvLe_of rfl rfl (by repeat' (first | exact (fun _ h => absurd h List.not_mem_nil) | refine List.forall_mem_cons.mpr ⟨rfl, ?_⟩))) (ih (r + 1) (by omega))
      · skip
        refine pr_go rfl (s_icmp_eq_f (fun e => h18 ((nI_eq (by omega) (by omega)).mp e))) ?_
        refine pr_go rfl (s_iload_n rfl) ?_
        refine pr_go rfl (s_iload_n rfl) ?_
        by_cases h23 : r = q
        · skip
          refine pr_go rfl (s_icmp_eq_t (by rw [h23])) ?_
          refine pr_go rfl (s_iinc1 rfl (lv' := [(3, .int (nI (r + 1))), (0, .ref o), (1, .int (nI p)), (2, .int (nI q))]) (by rw [nI_1]; rfl)) ?_
          refine pr_go rfl s_goto ?_
          rw [show clP f p q r = true from by unfold clP; simp only [h13, decide_eq_false h18, decide_eq_true h23]; rfl, Bool.true_and]
          exact pr_less (lvLe_of rfl rfl (by repeat' (first | exact (fun _ h => absurd h List.not_mem_nil) | refine List.forall_mem_cons.mpr ⟨rfl, ?_⟩))) (ih (r + 1) (by omega))
        · skip
          refine pr_go rfl (s_icmp_eq_f (fun e => h23 ((nI_eq (by omega) (by omega)).mp e))) ?_
          refine pr_go rfl (s_aload_n rfl) ?_
          refine pr_go rfl (s_iload_n rfl) ?_
          refine pr_go rfl (s_iload_n rfl) ?_
          refine pr_go rfl (s_aload_n rfl) ?_
          refine pr_go rfl (s_iload_n rfl) ?_
          refine pr_call rfl (s_invV rfl ho rfl rfl) (r_xOf ho hc hn hn2 (k := r) (by omega)) ?_
          refine pr_go rfl (s_aload_n rfl) ?_
          refine pr_go rfl (s_iload_n rfl) ?_
          refine pr_call rfl (s_invV rfl ho rfl rfl) (r_yOf ho hc hn hn2 (k := r) (by omega)) ?_
          refine pr_call rfl (s_invV rfl ho rfl rfl) (r_isBetween ho hc hn hn2 (p := p) (q := q) (by omega) (by omega) (x := xF f r) (y := yF f r)) ?_
          cases h42 : betwF f p q (xF f r) (yF f r)
          · skip
            refine pr_go rfl (s_if_eq_t (by decide)) ?_
            refine pr_go rfl (s_iinc1 rfl (lv' := [(3, .int (nI (r + 1))), (0, .ref o), (1, .int (nI p)), (2, .int (nI q))]) (by rw [nI_1]; rfl)) ?_
            refine pr_go rfl s_goto ?_
            rw [show clP f p q r = true from by unfold clP; simp only [h13, decide_eq_false h18, decide_eq_false h23, h42]; rfl, Bool.true_and]
            exact pr_less (lvLe_of rfl rfl (by repeat' (first | exact (fun _ h => absurd h List.not_mem_nil) | refine List.forall_mem_cons.mpr ⟨rfl, ?_⟩))) (ih (r + 1) (by omega))
          · skip
            refine pr_go rfl (s_if_eq_f (by decide)) ?_
            refine pr_go rfl s_iconst ?_
            rw [show clP f p q r = false from by unfold clP; simp only [h13, decide_eq_false h18, decide_eq_false h23, h42]; rfl]; exact pr_retE (r' := some (.int (nI 0))) rfl s_ret0 (rfl)
theorem r_isClear {w : pW} {o c n : Nat} {f : Nat → Int32} {fs : List Value} (ho : w[o]? = some (.inr (9, .ref c :: fs))) (hc : w[c]? = some (.inl (0, n, .inl f))) (hn : 1780 ≤ n) (hn2 : n < 2 ^ 31) {p q : Nat} (hp : p < 40) (hq : q < 40) : pRun 207 [.ref o, .int (nI p), .int (nI q)] w (some (.int (bI (clearF f p q)))) w := by
  refine pr_run rfl ?_
  refine pr_blk 2 (q' := (2, [(3, .int (nI 0)), (0, .ref o), (1, .int (nI p)), (2, .int (nI q))], [], w)) (by with_unfolding_all rfl) ?_
  exact pr_less (lvLe_of rfl rfl (by repeat' (first | exact (fun _ h => absurd h List.not_mem_nil) | refine List.forall_mem_cons.mpr ⟨rfl, ?_⟩))) (l_isClear ho hc hn hn2 hp hq 40 0 rfl)
theorem l_isUncutI {w : pW} {o c n : Nat} {f : Nat → Int32} {fs : List Value} (ho : w[o]? = some (.inr (9, .ref c :: fs))) (hc : w[c]? = some (.inl (0, n, .inl f))) (hn : 1780 ≤ n) (hn2 : n < 2 ^ 31) {p q : Nat} (hp : p < 40) (hq : q < 40) {r : Nat} (hr : r < 40) {b : Bool} (K : pRest 208 (47, [(0, .ref o), (1, .int (nI p)), (2, .int (nI q)), (3, .int (nI r))], [], w) (some (.int (bI b))) w) : ∀ m s, s + m = r → pRest 208 (11, [(0, .ref o), (1, .int (nI p)), (2, .int (nI q)), (3, .int (nI r)), (4, .int (nI s))], [], w) (some (.int (bI ((List.range' s m).all (unP f p q r) && b)))) w := by
  intro m
  induction m with
  | zero =>
    intro s hs
    have hs : s = r := by omega
    subst hs
    refine pr_go rfl (s_iload rfl) ?_
    refine pr_go rfl (s_iload_n rfl) ?_
    refine pr_go rfl (s_icmp_ge_t (Int32.le_refl _)) ?_
    rw [show (List.range' s 0).all (unP f p q s) = true from rfl, Bool.true_and]
    exact pr_less (lvLe_of rfl rfl (by repeat' (first | exact (fun _ h => absurd h List.not_mem_nil) | refine List.forall_mem_cons.mpr ⟨rfl, ?_⟩))) K
  | succ m ih =>
    intro s hs
    rw [show (List.range' s (m + 1)).all (unP f p q r) = (unP f p q r s && (List.range' (s + 1) m).all (unP f p q r)) from by rw [List.range'_succ, List.all_cons]]
    refine pr_go rfl (s_iload rfl) ?_
    refine pr_go rfl (s_iload_n rfl) ?_
    refine pr_go rfl (s_icmp_ge_f (nI_ge (by omega) (by omega))) ?_
    refine pr_go rfl (s_aload_n rfl) ?_
    refine pr_go rfl (s_iload_n rfl) ?_
    refine pr_go rfl (s_iload rfl) ?_
    refine pr_call rfl (s_invV rfl ho rfl rfl) (r_fixedAt ho hc hn hn2 (p := r) (q := s) (by omega) (by omega)) ?_
    by_cases h24 : fxF f r s = 0
    · skip
      refine pr_go rfl (s_if_eq_t h24) ?_
      refine pr_go rfl (s_iinc1 rfl (lv' := [(4, .int (nI (s + 1))), (0, .ref o), (1, .int (nI p)), (2, .int (nI q)), (3, .int (nI r))]) (by rw [nI_1]; rfl)) ?_
      refine pr_go rfl s_goto ?_
      rw [show unP f p q r s = true from by unfold unP; simp only [decide_eq_true h24]; rfl, Bool.true_and]
      exact pr_less (lvLe_of rfl rfl (by repeat' (first | exact (fun _ h => absurd h List.not_mem_nil) | refine List.forall_mem_cons.mpr ⟨rfl, ?_⟩))) (ih (s + 1) (by omega))
    · skip
      refine pr_go rfl (s_if_eq_f h24) ?_
      refine pr_go rfl (s_aload_n rfl) ?_
      refine pr_go rfl (s_iload_n rfl) ?_
      refine pr_go rfl (s_iload_n rfl) ?_
      refine pr_go rfl (s_iload_n rfl) ?_
      refine pr_go rfl (s_iload rfl) ?_
      refine pr_call rfl (s_invV rfl ho rfl rfl) (r_crosses ho hc hn hn2 (p := p) (q := q) (by omega) (by omega) (r := r) (s := s) (by omega) (by omega)) ?_
      cases h36 : crossF f p q r s
      · skip
        refine pr_go rfl (s_if_eq_t (by decide)) ?_
        refine pr_go rfl (s_iinc1 rfl (lv' := [(4, .int (nI (s + 1))), (0, .ref o), (1, .int (nI p)), (2, .int (nI q)), (3, .int (nI r))]) (by rw [nI_1]; rfl)) ?_
        refine pr_go rfl s_goto ?_
        rw [show unP f p q r s = true from by unfold unP; simp only [decide_eq_false h24, h36]; rfl, Bool.true_and]
        exact pr_less (lvLe_of rfl rfl (by repeat' (first | exact (fun _ h => absurd h List.not_mem_nil) | refine List.forall_mem_cons.mpr ⟨rfl, ?_⟩))) (ih (s + 1) (by omega))
      · skip
        refine pr_go rfl (s_if_eq_f (by decide)) ?_
        refine pr_go rfl s_iconst ?_
        rw [show unP f p q r s = false from by unfold unP; simp only [decide_eq_false h24, h36]; rfl]; exact pr_retE (r' := some (.int (nI 0))) rfl s_ret0 (rfl)
theorem l_isUncut {w : pW} {o c n : Nat} {f : Nat → Int32} {fs : List Value} (ho : w[o]? = some (.inr (9, .ref c :: fs))) (hc : w[c]? = some (.inl (0, n, .inl f))) (hn : 1780 ≤ n) (hn2 : n < 2 ^ 31) {p q : Nat} (hp : p < 40) (hq : q < 40) : ∀ m r, r + m = 40 → pRest 208 (2, [(0, .ref o), (1, .int (nI p)), (2, .int (nI q)), (3, .int (nI r))], [], w) (some (.int (bI ((List.range' r m).all (fun r => (List.range' 0 r).all (unP f p q r)))))) w := by
  intro m
  induction m with
  | zero =>
    intro r hr
    have hr : r = 40 := by omega
    subst hr
    refine pr_go rfl (s_iload_n rfl) ?_
    refine pr_go rfl s_bipush ?_
    refine pr_go rfl (s_icmp_ge_t (Int32.le_refl _)) ?_
    refine pr_go rfl s_iconst ?_
    exact pr_retE (r' := some (.int (nI 1))) rfl s_ret1 (rfl)
  | succ m ih =>
    intro r hr
    rw [show (List.range' r (m + 1)).all (fun r => (List.range' 0 r).all (unP f p q r)) = ((List.range' 0 r).all (unP f p q r) && (List.range' (r + 1) m).all (fun r => (List.range' 0 r).all (unP f p q r))) from by rw [List.range'_succ, List.all_cons]]
    have K : pRest 208 (47, [(0, .ref o), (1, .int (nI p)), (2, .int (nI q)), (3, .int (nI r))], [], w) (some (.int (bI ((List.range' (r + 1) m).all (fun r => (List.range' 0 r).all (unP f p q r)))))) w := by
      refine pr_go rfl (s_iinc1 rfl (lv' := [(3, .int (nI (r + 1))), (0, .ref o), (1, .int (nI p)), (2, .int (nI q))]) (by rw [nI_1]; rfl)) ?_
      refine pr_go rfl s_goto ?_
      exact pr_less (lvLe_of rfl rfl (by repeat' (first | exact (fun _ h => absurd h List.not_mem_nil) | refine List.forall_mem_cons.mpr ⟨rfl, ?_⟩))) (ih (r + 1) (by omega))
    refine pr_go rfl (s_iload_n rfl) ?_
    refine pr_go rfl s_bipush ?_
    refine pr_go rfl (s_icmp_ge_f (nI_ge (by omega) (by omega))) ?_
    refine pr_go rfl s_iconst ?_
    refine pr_go rfl (s_istore (lv' := [(4, .int (nI 0)), (0, .ref o), (1, .int (nI p)), (2, .int (nI q)), (3, .int (nI r))]) rfl) ?_
    exact pr_less (lvLe_of rfl rfl (by repeat' (first | exact (fun _ h => absurd h List.not_mem_nil) | refine List.forall_mem_cons.mpr ⟨rfl, ?_⟩))) (l_isUncutI ho hc hn hn2 hp hq (by omega) K r 0 (Nat.zero_add r))
theorem r_isUncut {w : pW} {o c n : Nat} {f : Nat → Int32} {fs : List Value} (ho : w[o]? = some (.inr (9, .ref c :: fs))) (hc : w[c]? = some (.inl (0, n, .inl f))) (hn : 1780 ≤ n) (hn2 : n < 2 ^ 31) {p q : Nat} (hp : p < 40) (hq : q < 40) : pRun 208 [.ref o, .int (nI p), .int (nI q)] w (some (.int (bI (uncutF f p q)))) w := by
  refine pr_run rfl ?_
  refine pr_blk 2 (q' := (2, [(3, .int (nI 0)), (0, .ref o), (1, .int (nI p)), (2, .int (nI q))], [], w)) (by with_unfolding_all rfl) ?_
  exact pr_less (lvLe_of rfl rfl (by repeat' (first | exact (fun _ h => absurd h List.not_mem_nil) | refine List.forall_mem_cons.mpr ⟨rfl, ?_⟩))) (l_isUncut ho hc hn hn2 hp hq 40 0 rfl)
theorem r_seesNow {w : pW} {o c n : Nat} {f : Nat → Int32} {fs : List Value} (ho : w[o]? = some (.inr (9, .ref c :: fs))) (hc : w[c]? = some (.inl (0, n, .inl f))) (hn : 1780 ≤ n) (hn2 : n < 2 ^ 31) {p q : Nat} (hp : p < 40) (hq : q < 40) : pRun 209 [.ref o, .int (nI p), .int (nI q)] w (some (.int (bI (seesF f p q)))) w := by
  refine pr_run rfl ?_
  refine pr_go rfl (s_aload_n rfl) ?_
  refine pr_go rfl (s_iload_n rfl) ?_
  refine pr_go rfl (s_iload_n rfl) ?_
  refine pr_call rfl (s_invV rfl ho rfl rfl) (r_isClear ho hc hn hn2 (p := p) (q := q) (by omega) (by omega)) ?_
  cases h6 : (clearF f p q)
  · skip
    refine pr_go rfl (s_if_eq_t (by decide)) ?_
    refine pr_go rfl s_iconst ?_
    exact pr_retE (r' := some (.int (nI 0))) rfl s_ret0 (by unfold seesF bI; simp only [h6]; rfl)
  · skip
    refine pr_go rfl (s_if_eq_f (by decide)) ?_
    refine pr_go rfl (s_aload_n rfl) ?_
    refine pr_go rfl (s_iload_n rfl) ?_
    refine pr_go rfl (s_iload_n rfl) ?_
    refine pr_call rfl (s_invV rfl ho rfl rfl) (r_isUncut ho hc hn hn2 (p := p) (q := q) (by omega) (by omega)) ?_
    cases h15 : (uncutF f p q)
    · skip
      refine pr_go rfl (s_if_eq_t (by decide)) ?_
      refine pr_go rfl s_iconst ?_
      exact pr_retE (r' := some (.int (nI 0))) rfl s_ret0 (by unfold seesF bI; simp only [h6, h15]; rfl)
    · skip
      refine pr_go rfl (s_if_eq_f (by decide)) ?_
      refine pr_go rfl s_iconst ?_
      refine pr_go rfl s_goto ?_
      exact pr_retE (r' := some (.int (nI 1))) rfl s_ret1 (by unfold seesF bI; simp only [h6, h15]; rfl)
