/-! LAYING TRIANGLES: one triangle, what lies to the left, the whole mesh. Rows laid by program (wip/tools/lay.py, mk33.py). -/
theorem r_come {A : pW} {R : RS} {f g : Nat → Int32} {n p q r : Nat} (hn : n < 80) (hp : p < 40) (hq : q < 40) (hr : r < 40) : pRun 216 [.ref A.length, .int (nI p), .int (nI q), .int (nI r)] (rW A (N3 R f g (nI n))) none (rW A (N3 R (upd (upd (upd f (3 * n) (nI p)) (3 * n + 1) (nI q)) (3 * n + 2) (nI r)) (upd (upd (upd g (40 * p + q) (nI n)) (40 * q + r) (nI n)) (40 * r + p) (nI n)) (nI (n + 1)))) := by
  refine pr_run rfl ?_
  refine pr_go rfl (s_aload_n rfl) ?_
  refine pr_go rfl (s_getf rg_o rfl) ?_
  refine pr_go rfl s_iconst ?_
  refine pr_go rfl (s_aload_n rfl) ?_
  refine pr_go rfl (s_getf rg_o n3_n) ?_
  refine pr_go rfl (s_imulN (c := 3 * n) rfl) ?_
  refine pr_go rfl (s_iload_n rfl) ?_
  refine pr_go rfl (s_iastN n3_tr (by omega) (by decide) n3s_tr) ?_
  refine pr_go rfl (s_aload_n rfl) ?_
  refine pr_go rfl (s_getf rg_o rfl) ?_
  refine pr_go rfl s_iconst ?_
  refine pr_go rfl (s_aload_n rfl) ?_
  refine pr_go rfl (s_getf rg_o n3_n) ?_
  refine pr_go rfl (s_imulN (c := 3 * n) rfl) ?_
  refine pr_go rfl s_iconst ?_
  refine pr_go rfl (s_iaddN (c := (3 * n) + 1) rfl) ?_
  refine pr_go rfl (s_iload_n rfl) ?_
  refine pr_go rfl (s_iastN n3_tr (by omega) (by decide) n3s_tr) ?_
  refine pr_go rfl (s_aload_n rfl) ?_
  refine pr_go rfl (s_getf rg_o rfl) ?_
  refine pr_go rfl s_iconst ?_
  refine pr_go rfl (s_aload_n rfl) ?_
  refine pr_go rfl (s_getf rg_o n3_n) ?_
  refine pr_go rfl (s_imulN (c := 3 * n) rfl) ?_
  refine pr_go rfl s_iconst ?_
  refine pr_go rfl (s_iaddN (c := (3 * n) + 2) rfl) ?_
  refine pr_go rfl (s_iload_n rfl) ?_
  refine pr_go rfl (s_iastN n3_tr (by omega) (by decide) n3s_tr) ?_
  refine pr_go rfl (s_aload_n rfl) ?_
  refine pr_go rfl (s_getf rg_o rfl) ?_
  refine pr_go rfl s_bipush ?_
  refine pr_go rfl (s_iload_n rfl) ?_
  refine pr_go rfl (s_imulN (c := 40 * p) rfl) ?_
  refine pr_go rfl (s_iload_n rfl) ?_
  refine pr_go rfl (s_iaddN (c := (40 * p) + q) rfl) ?_
  refine pr_go rfl (s_aload_n rfl) ?_
  refine pr_go rfl (s_getf rg_o n3_n) ?_
  refine pr_go rfl (s_iastN n3_lf (by omega) (by decide) n3s_lf) ?_
  refine pr_go rfl (s_aload_n rfl) ?_
  refine pr_go rfl (s_getf rg_o rfl) ?_
  refine pr_go rfl s_bipush ?_
  refine pr_go rfl (s_iload_n rfl) ?_
  refine pr_go rfl (s_imulN (c := 40 * q) rfl) ?_
  refine pr_go rfl (s_iload_n rfl) ?_
  refine pr_go rfl (s_iaddN (c := (40 * q) + r) rfl) ?_
  refine pr_go rfl (s_aload_n rfl) ?_
  refine pr_go rfl (s_getf rg_o n3_n) ?_
  refine pr_go rfl (s_iastN n3_lf (by omega) (by decide) n3s_lf) ?_
  refine pr_go rfl (s_aload_n rfl) ?_
  refine pr_go rfl (s_getf rg_o rfl) ?_
  refine pr_go rfl s_bipush ?_
  refine pr_go rfl (s_iload_n rfl) ?_
  refine pr_go rfl (s_imulN (c := 40 * r) rfl) ?_
  refine pr_go rfl (s_iload_n rfl) ?_
  refine pr_go rfl (s_iaddN (c := (40 * r) + p) rfl) ?_
  refine pr_go rfl (s_aload_n rfl) ?_
  refine pr_go rfl (s_getf rg_o n3_n) ?_
  refine pr_go rfl (s_iastN n3_lf (by omega) (by decide) n3s_lf) ?_
  refine pr_go rfl (s_aload_n rfl) ?_
  refine pr_go rfl (s_dup rfl) ?_
  refine pr_go rfl (s_getf rg_o n3_n) ?_
  refine pr_go rfl s_iconst ?_
  refine pr_go rfl (s_iaddN (c := n + 1) rfl) ?_
  refine pr_go rfl (s_putfN rg_o (show 4 < 19 from by decide) rfl n3s_n) ?_
  exact pr_ret rfl rfl
theorem r_comeT {A : pW} {R : RS} {g0 h0 : Nat → Int32} {L : List Tri} {p q r : Nat} (hn : L.length < 80) (hp : p < 40) (hq : q < 40) (hr : r < 40) : pRun 216 [.ref A.length, .int (nI p), .int (nI q), .int (nI r)] (rW A (RT R g0 h0 L)) none (rW A (RT R g0 h0 (L ++ [(p, q, r)]))) := by
  have h := r_come (A := A) (R := R) (f := gT g0 L) (g := hT h0 L) hn hp hq hr
  rw [come_tr, come_lf] at h
  unfold RT
  rw [List.length_append, List.length_singleton]
  exact h
theorem r_leftAt {A : pW} {R : RS} {p q : Nat} (hp : p < 40) (hq : q < 40) : pRun 212 [.ref A.length, .int (nI p), .int (nI q)] (rW A R) (some (.int (R.lf (40 * p + q)))) (rW A R) := by
  refine pr_run rfl ?_
  refine pr_go rfl (s_aload_n rfl) ?_
  refine pr_go rfl (s_getf rg_o rfl) ?_
  refine pr_go rfl s_bipush ?_
  refine pr_go rfl (s_iload_n rfl) ?_
  refine pr_go rfl (s_imulN (c := 40 * p) rfl) ?_
  refine pr_go rfl (s_iload_n rfl) ?_
  refine pr_go rfl (s_iaddN (c := (40 * p) + q) rfl) ?_
  refine pr_go rfl (s_ialdN (v := R.lf (((40 * p) + q))) rg_lf (by omega) (by decide) rfl rfl) ?_
  exact pr_retE (r' := some (.int (R.lf (((40 * p) + q))))) rfl s_retI (rfl)
def edgF (h : Nat → Int32) (p q : Nat) : Bool := !(decide (h (40 * p + q) = nI 4294967295)) || !(decide (h (40 * q + p) = nI 4294967295))
theorem r_isEdgeNow {A : pW} {R : RS} {p q : Nat} (hp : p < 40) (hq : q < 40) : pRun 213 [.ref A.length, .int (nI p), .int (nI q)] (rW A R) (some (.int (bI (edgF R.lf p q)))) (rW A R) := by
  refine pr_run rfl ?_
  refine pr_go rfl (s_aload_n rfl) ?_
  refine pr_go rfl (s_iload_n rfl) ?_
  refine pr_go rfl (s_iload_n rfl) ?_
  refine pr_call rfl (s_invV rfl rg_o rfl rfl) (r_leftAt (p := p) (q := q) (by omega) (by omega)) ?_
  refine pr_go rfl s_iconst ?_
  by_cases h7 : R.lf (40 * p + q) = nI 4294967295
  · skip
    refine pr_go rfl (s_icmp_ne_f (fun e => e h7)) ?_
    refine pr_go rfl (s_aload_n rfl) ?_
    refine pr_go rfl (s_iload_n rfl) ?_
    refine pr_go rfl (s_iload_n rfl) ?_
    refine pr_call rfl (s_invV rfl rg_o rfl rfl) (r_leftAt (p := q) (q := p) (by omega) (by omega)) ?_
    refine pr_go rfl s_iconst ?_
    by_cases h17 : R.lf (40 * q + p) = nI 4294967295
    · skip
      refine pr_go rfl (s_icmp_eq_t h17) ?_
      refine pr_go rfl s_iconst ?_
      exact pr_retE (r' := some (.int (nI 0))) rfl s_ret0 (by unfold edgF bI; simp only [decide_eq_true h7, decide_eq_true h17]; rfl)
    · skip
      refine pr_go rfl (s_icmp_eq_f h17) ?_
      refine pr_go rfl s_iconst ?_
      refine pr_go rfl s_goto ?_
      exact pr_retE (r' := some (.int (nI 1))) rfl s_ret1 (by unfold edgF bI; simp only [decide_eq_true h7, decide_eq_false h17]; rfl)
  · skip
    refine pr_go rfl (s_icmp_ne_t h7) ?_
    refine pr_go rfl s_iconst ?_
    refine pr_go rfl s_goto ?_
    exact pr_retE (r' := some (.int (nI 1))) rfl s_ret1 (by unfold edgF bI; simp only [decide_eq_false h7]; rfl)
theorem r_isBorderB {A : pW} {R : RS} {f g : Nat → Int32} {x : Int32} {p q : Nat} (hp : p < 40) (hq : q < 40) : pRun 217 [.ref A.length, .int (nI p), .int (nI q)] (rW A (N3 R f g x)) (some (.int (bI (bordF R.a p q)))) (rW A (N3 R f g x)) := r_isBorder rg_o n3_a (by decide) (by decide) hp hq
theorem r_isInwardB {A : pW} {R : RS} {f g : Nat → Int32} {x : Int32} {p q : Nat} (hp : p < 40) (hq : q < 40) : pRun 218 [.ref A.length, .int (nI p), .int (nI q)] (rW A (N3 R f g x)) (some (.int (bI (inwF R.a p q)))) (rW A (N3 R f g x)) := r_isInward rg_o n3_a (by decide) (by decide) hp hq
theorem l_lay1q {A : pW} {R : RS} {g0 h0 : Nat → Int32} {w1 : pW} (hneg : neg1 h0) {p : Nat} (hp : p < 40) : ∀ m q L, q + m = 40 → good ((List.range' q m).foldl (stp1 R.a p) L) → pRest 219 (80, [(0, .ref A.length), (1, .int (nI p))], [], rW A (RT R g0 h0 ((List.range' q m).foldl (stp1 R.a p) L))) none w1 → pRest 219 (37, [(0, .ref A.length), (1, .int (nI p)), (2, .int (nI q))], [], rW A (RT R g0 h0 L)) none w1 := by
  intro m
  induction m with
  | zero =>
    intro q L hm hg K
    have hm : q = 40 := by omega
    subst hm
    refine pr_go rfl (s_iload_n rfl) ?_
    refine pr_go rfl s_bipush ?_
    refine pr_go rfl (s_icmp_ge_t (Int32.le_refl _)) ?_
    exact pr_less (lvLe_of rfl rfl (by repeat' (first | exact (fun _ h => absurd h List.not_mem_nil) | refine List.forall_mem_cons.mpr ⟨rfl, ?_⟩))) K
  | succ m ih =>
    intro q L hm hg K
    rw [List.range'_succ, List.foldl_cons] at hg K
    have hgL : good L := good_pre (stp1_pre.trans (fold_pre (fun L q => stp1_pre) _ _)) hg
    cases hI : inwF R.a p q
    · rw [show stp1 R.a p L q = L from by unfold stp1; rw [hI]; rfl] at hg K
      refine pr_go rfl (s_iload_n rfl) ?_
      refine pr_go rfl s_bipush ?_
      refine pr_go rfl (s_icmp_ge_f (nI_ge (by omega) (by omega))) ?_
      refine pr_go rfl (s_aload_n rfl) ?_
      refine pr_go rfl (s_iload_n rfl) ?_
      refine pr_go rfl (s_iload_n rfl) ?_
      refine pr_call rfl (s_invV rfl rg_o rfl rfl) (r_isInwardB (p := p) (q := q) (by omega) (by omega)) ?_
      refine pr_go rfl (s_if_eq_t (by rw [hI]; rfl)) ?_
      refine pr_go rfl (s_iincN (y := nI (q + 1)) rfl (nI_add _ _) (lv' := [(2, .int (nI (q + 1))), (0, .ref A.length), (1, .int (nI p))]) rfl) ?_
      refine pr_go rfl s_goto ?_
      exact pr_less (lvLe_of rfl rfl (by repeat' (first | exact (fun _ h => absurd h List.not_mem_nil) | refine List.forall_mem_cons.mpr ⟨rfl, ?_⟩))) (ih (q + 1) _ (by omega) hg K)
    · cases hF : isFree L p q
      · rw [show stp1 R.a p L q = L from by unfold stp1; rw [hI, hF]; rfl] at hg K
        refine pr_go rfl (s_iload_n rfl) ?_
        refine pr_go rfl s_bipush ?_
        refine pr_go rfl (s_icmp_ge_f (nI_ge (by omega) (by omega))) ?_
        refine pr_go rfl (s_aload_n rfl) ?_
        refine pr_go rfl (s_iload_n rfl) ?_
        refine pr_go rfl (s_iload_n rfl) ?_
        refine pr_call rfl (s_invV rfl rg_o rfl rfl) (r_isInwardB (p := p) (q := q) (by omega) (by omega)) ?_
        refine pr_go rfl (s_if_eq_f (by rw [hI]; decide)) ?_
        refine pr_go rfl (s_aload_n rfl) ?_
        refine pr_go rfl (s_iload_n rfl) ?_
        refine pr_go rfl (s_iload_n rfl) ?_
        refine pr_call rfl (s_invV rfl rg_o rfl rfl) (r_leftAt (R := RT R g0 h0 L) (p := p) (q := q) (by omega) (by omega)) ?_
        refine pr_go rfl s_iconst ?_
        refine pr_go rfl (s_icmp_ne_t (hT_nfree hgL (by omega) (by omega) hF)) ?_
        refine pr_go rfl (s_iincN (y := nI (q + 1)) rfl (nI_add _ _) (lv' := [(2, .int (nI (q + 1))), (0, .ref A.length), (1, .int (nI p))]) rfl) ?_
        refine pr_go rfl s_goto ?_
        exact pr_less (lvLe_of rfl rfl (by repeat' (first | exact (fun _ h => absurd h List.not_mem_nil) | refine List.forall_mem_cons.mpr ⟨rfl, ?_⟩))) (ih (q + 1) _ (by omega) hg K)
      · rw [show stp1 R.a p L q = L ++ [(p, q, cornF R.a p q)] from by unfold stp1; rw [hI, hF]; rfl] at hg K
        have hg2 := good_pre (fold_pre (fun L q => stp1_pre) _ _) hg
        have hc : cornF R.a p q < 40 := (hg2.1 _ (List.mem_append_right _ (List.mem_singleton.mpr rfl))).2.2
        have hn : L.length < 80 := by
          have := hg2.2
          rw [List.length_append, List.length_singleton] at this
          omega
        refine pr_go rfl (s_iload_n rfl) ?_
        refine pr_go rfl s_bipush ?_
        refine pr_go rfl (s_icmp_ge_f (nI_ge (by omega) (by omega))) ?_
        refine pr_go rfl (s_aload_n rfl) ?_
        refine pr_go rfl (s_iload_n rfl) ?_
        refine pr_go rfl (s_iload_n rfl) ?_
        refine pr_call rfl (s_invV rfl rg_o rfl rfl) (r_isInwardB (p := p) (q := q) (by omega) (by omega)) ?_
        refine pr_go rfl (s_if_eq_f (by rw [hI]; decide)) ?_
        refine pr_go rfl (s_aload_n rfl) ?_
        refine pr_go rfl (s_iload_n rfl) ?_
        refine pr_go rfl (s_iload_n rfl) ?_
        refine pr_call rfl (s_invV rfl rg_o rfl rfl) (r_leftAt (R := RT R g0 h0 L) (p := p) (q := q) (by omega) (by omega)) ?_
        refine pr_go rfl s_iconst ?_
        refine pr_go rfl (s_icmp_ne_f (fun e => e (hT_free hneg hgL (by omega) (by omega) hF))) ?_
        refine pr_go rfl (s_aload_n rfl) ?_
        refine pr_go rfl (s_iload_n rfl) ?_
        refine pr_go rfl (s_iload_n rfl) ?_
        refine pr_go rfl (s_aload_n rfl) ?_
        refine pr_go rfl (s_iload_n rfl) ?_
        refine pr_go rfl (s_iload_n rfl) ?_
        refine pr_call rfl (s_invV rfl rg_o rfl rfl) (r_cornerFor rg_o n3_a (by decide) (by decide) (p := p) (q := q) (by omega) (by omega)) ?_
        refine pr_call rfl (s_invV rfl rg_o rfl rfl) (r_comeT (p := p) (q := q) (r := (cornF R.a p q)) (by omega) (by omega) (by omega) (by omega)) ?_
        refine pr_go rfl (s_iincN (y := nI (q + 1)) rfl (nI_add _ _) (lv' := [(2, .int (nI (q + 1))), (0, .ref A.length), (1, .int (nI p))]) rfl) ?_
        refine pr_go rfl s_goto ?_
        exact pr_less (lvLe_of rfl rfl (by repeat' (first | exact (fun _ h => absurd h List.not_mem_nil) | refine List.forall_mem_cons.mpr ⟨rfl, ?_⟩))) (ih (q + 1) _ (by omega) hg K)
theorem l_lay1p {A : pW} {R : RS} {g0 h0 : Nat → Int32} {w1 : pW} (hneg : neg1 h0) : ∀ m p L, p + m = 40 → good (lay1 R.a p m L) → pRest 219 (86, [(0, .ref A.length)], [], rW A (RT R g0 h0 (lay1 R.a p m L))) none w1 → pRest 219 (29, [(0, .ref A.length), (1, .int (nI p))], [], rW A (RT R g0 h0 L)) none w1 := by
  intro m
  induction m with
  | zero =>
    intro p L hm hg K
    have hm : p = 40 := by omega
    subst hm
    refine pr_go rfl (s_iload_n rfl) ?_
    refine pr_go rfl s_bipush ?_
    refine pr_go rfl (s_icmp_ge_t (Int32.le_refl _)) ?_
    exact pr_less (lvLe_of rfl rfl (by repeat' (first | exact (fun _ h => absurd h List.not_mem_nil) | refine List.forall_mem_cons.mpr ⟨rfl, ?_⟩))) K
  | succ m ih =>
    intro p L hm hg K
    have e : lay1 R.a p (m + 1) L = lay1 R.a (p + 1) m ((List.range' 0 40).foldl (stp1 R.a p) L) := by unfold lay1; rw [show List.range' p (m + 1) = p :: List.range' (p + 1) m from List.range'_succ]; rfl
    rw [e] at hg K
    have hg2 : good ((List.range' 0 40).foldl (stp1 R.a p) L) := good_pre lay1_pre hg
    have K2 : pRest 219 (80, [(0, .ref A.length), (1, .int (nI p))], [], rW A (RT R g0 h0 ((List.range' 0 40).foldl (stp1 R.a p) L))) none w1 := by
      refine pr_go rfl (s_iincN (y := nI (p + 1)) rfl (nI_add _ _) (lv' := [(1, .int (nI (p + 1))), (0, .ref A.length)]) rfl) ?_
      refine pr_go rfl s_goto ?_
      exact pr_less (lvLe_of rfl rfl (by repeat' (first | exact (fun _ h => absurd h List.not_mem_nil) | refine List.forall_mem_cons.mpr ⟨rfl, ?_⟩))) (ih (p + 1) _ (by omega) hg K)
    refine pr_go rfl (s_iload_n rfl) ?_
    refine pr_go rfl s_bipush ?_
    refine pr_go rfl (s_icmp_ge_f (nI_ge (by omega) (by omega))) ?_
    refine pr_go rfl s_iconst ?_
    refine pr_go rfl (s_istore_n (lv' := [(2, .int (nI 0)), (0, .ref A.length), (1, .int (nI p))]) rfl) ?_
    exact pr_less (lvLe_of rfl rfl (by repeat' (first | exact (fun _ h => absurd h List.not_mem_nil) | refine List.forall_mem_cons.mpr ⟨rfl, ?_⟩))) (l_lay1q hneg (by omega) 40 0 L rfl hg2 K2)
theorem stp2_e {f : Nat → Int32} {i k : Nat} {L : List Tri} {t : Tri} (ht : L[i]? = some t) : stp2 f i L k = bif !(bordF f (tc t k) (tc t ((k + 1) % 3))) && isFree L (tc t ((k + 1) % 3)) (tc t k) then L ++ [(tc t ((k + 1) % 3), tc t k, cornF f (tc t ((k + 1) % 3)) (tc t k))] else L := by unfold stp2; rw [ht]
theorem tc40 {t : Tri} {k : Nat} (h : in40 t) : tc t k < 40 := by
  unfold tc
  split
  · exact h.1
  · exact h.2.1
  · exact h.2.2
theorem l_lay2k0 {A : pW} {R : RS} {g0 h0 : Nat → Int32} {w1 : pW} (hneg : neg1 h0) {i : Nat} {L : List Tri} {t : Tri} (hi : i < 80) (ht : L[i]? = some t) (hg : good (stp2 R.a i L 0)) (K : pRest 219 (98, [(0, .ref A.length), (1, .int (nI i)), (2, .int (nI 1))], [], rW A (RT R g0 h0 (stp2 R.a i L 0))) none w1) : pRest 219 (98, [(0, .ref A.length), (1, .int (nI i)), (2, .int (nI 0))], [], rW A (RT R g0 h0 L)) none w1 := by
  have hgL : good L := good_pre stp2_pre hg
  have ht9 := hgL.1 t (List.mem_of_getElem? ht)
  have ha : tc t 0 < 40 := tc40 ht9
  have hb : tc t 1 < 40 := tc40 ht9
  have e9 := stp2_e (f := R.a) (k := 0) ht
  cases hB : bordF R.a (tc t 0) (tc t 1)
  · cases hF : isFree L (tc t 1) (tc t 0)
    · rw [show stp2 R.a i L 0 = L from e9.trans (by rw [show (0 + 1) % 3 = 1 from rfl, hB, hF]; rfl)] at hg K
      refine pr_go rfl (s_iload_n rfl) ?_
      refine pr_go rfl s_iconst ?_
      refine pr_go rfl (s_icmp_ge_f (by decide)) ?_
      refine pr_go rfl (s_aload_n rfl) ?_
      refine pr_go rfl (s_getf rg_o rfl) ?_
      refine pr_go rfl s_iconst ?_
      refine pr_go rfl (s_iload_n rfl) ?_
      refine pr_go rfl (s_imulN (c := 3 * i) rfl) ?_
      refine pr_go rfl (s_iload_n rfl) ?_
      refine pr_go rfl (s_iaddN (c := (3 * i) + 0) rfl) ?_
      refine pr_go rfl (s_ialdN (v := nI (tc t 0)) n3_tr (by omega) (by decide) rfl (gT_at (c := 0) ht (by decide))) ?_
      refine pr_go rfl (s_istore_n (lv' := [(3, .int (nI (tc t 0))), (0, .ref A.length), (1, .int (nI i)), (2, .int (nI 0))]) rfl) ?_
      refine pr_go rfl (s_aload_n rfl) ?_
      refine pr_go rfl (s_getf rg_o rfl) ?_
      refine pr_go rfl s_iconst ?_
      refine pr_go rfl (s_iload_n rfl) ?_
      refine pr_go rfl (s_imulN (c := 3 * i) rfl) ?_
      refine pr_go rfl (s_iload_n rfl) ?_
      refine pr_go rfl s_iconst ?_
      refine pr_go rfl (s_iaddN (c := 1) rfl) ?_
      refine pr_go rfl s_iconst ?_
      refine pr_go rfl (s_iremN (c := 1) (by omega) (by omega) (by omega) rfl) ?_
      refine pr_go rfl (s_iaddN (c := (3 * i) + 1) rfl) ?_
      refine pr_go rfl (s_ialdN (v := nI (tc t 1)) n3_tr (by omega) (by decide) rfl (gT_at (c := 1) ht (by decide))) ?_
      refine pr_go rfl (s_istore (lv' := [(4, .int (nI (tc t 1))), (3, .int (nI (tc t 0))), (0, .ref A.length), (1, .int (nI i)), (2, .int (nI 0))]) rfl) ?_
      refine pr_go rfl (s_aload_n rfl) ?_
      refine pr_go rfl (s_iload_n rfl) ?_
      refine pr_go rfl (s_iload rfl) ?_
      refine pr_call rfl (s_invV rfl rg_o rfl rfl) (r_isBorderB (p := (tc t 0)) (q := (tc t 1)) (by omega) (by omega)) ?_
      refine pr_go rfl (s_if_ne_f (by rw [hB]; decide)) ?_
      refine pr_go rfl (s_aload_n rfl) ?_
      refine pr_go rfl (s_iload rfl) ?_
      refine pr_go rfl (s_iload_n rfl) ?_
      refine pr_call rfl (s_invV rfl rg_o rfl rfl) (r_leftAt (R := RT R g0 h0 L) (p := (tc t 1)) (q := (tc t 0)) (by omega) (by omega)) ?_
      refine pr_go rfl s_iconst ?_
      refine pr_go rfl (s_icmp_ne_t (hT_nfree hgL (by omega) (by omega) hF)) ?_
      refine pr_go rfl (s_iincN (y := nI 1) rfl (nI_add _ _) (lv' := [(2, .int (nI 1)), (4, .int (nI (tc t 1))), (3, .int (nI (tc t 0))), (0, .ref A.length), (1, .int (nI i))]) rfl) ?_
      refine pr_go rfl s_goto ?_
      exact pr_less (lvLe_of rfl rfl (by repeat' (first | exact (fun _ h => absurd h List.not_mem_nil) | refine List.forall_mem_cons.mpr ⟨rfl, ?_⟩))) K
    · rw [show stp2 R.a i L 0 = L ++ [(tc t 1, tc t 0, cornF R.a (tc t 1) (tc t 0))] from e9.trans (by rw [show (0 + 1) % 3 = 1 from rfl, hB, hF]; rfl)] at hg K
      have hc : cornF R.a (tc t 1) (tc t 0) < 40 := (hg.1 _ (List.mem_append_right _ (List.mem_singleton.mpr rfl))).2.2
      have hn : L.length < 80 := by
        have := hg.2
        rw [List.length_append, List.length_singleton] at this
        omega
      refine pr_go rfl (s_iload_n rfl) ?_
      refine pr_go rfl s_iconst ?_
      refine pr_go rfl (s_icmp_ge_f (by decide)) ?_
      refine pr_go rfl (s_aload_n rfl) ?_
      refine pr_go rfl (s_getf rg_o rfl) ?_
      refine pr_go rfl s_iconst ?_
      refine pr_go rfl (s_iload_n rfl) ?_
      refine pr_go rfl (s_imulN (c := 3 * i) rfl) ?_
      refine pr_go rfl (s_iload_n rfl) ?_
      refine pr_go rfl (s_iaddN (c := (3 * i) + 0) rfl) ?_
      refine pr_go rfl (s_ialdN (v := nI (tc t 0)) n3_tr (by omega) (by decide) rfl (gT_at (c := 0) ht (by decide))) ?_
      refine pr_go rfl (s_istore_n (lv' := [(3, .int (nI (tc t 0))), (0, .ref A.length), (1, .int (nI i)), (2, .int (nI 0))]) rfl) ?_
      refine pr_go rfl (s_aload_n rfl) ?_
      refine pr_go rfl (s_getf rg_o rfl) ?_
      refine pr_go rfl s_iconst ?_
      refine pr_go rfl (s_iload_n rfl) ?_
      refine pr_go rfl (s_imulN (c := 3 * i) rfl) ?_
      refine pr_go rfl (s_iload_n rfl) ?_
      refine pr_go rfl s_iconst ?_
      refine pr_go rfl (s_iaddN (c := 1) rfl) ?_
      refine pr_go rfl s_iconst ?_
      refine pr_go rfl (s_iremN (c := 1) (by omega) (by omega) (by omega) rfl) ?_
      refine pr_go rfl (s_iaddN (c := (3 * i) + 1) rfl) ?_
      refine pr_go rfl (s_ialdN (v := nI (tc t 1)) n3_tr (by omega) (by decide) rfl (gT_at (c := 1) ht (by decide))) ?_
      refine pr_go rfl (s_istore (lv' := [(4, .int (nI (tc t 1))), (3, .int (nI (tc t 0))), (0, .ref A.length), (1, .int (nI i)), (2, .int (nI 0))]) rfl) ?_
      refine pr_go rfl (s_aload_n rfl) ?_
      refine pr_go rfl (s_iload_n rfl) ?_
      refine pr_go rfl (s_iload rfl) ?_
      refine pr_call rfl (s_invV rfl rg_o rfl rfl) (r_isBorderB (p := (tc t 0)) (q := (tc t 1)) (by omega) (by omega)) ?_
      refine pr_go rfl (s_if_ne_f (by rw [hB]; decide)) ?_
      refine pr_go rfl (s_aload_n rfl) ?_
      refine pr_go rfl (s_iload rfl) ?_
      refine pr_go rfl (s_iload_n rfl) ?_
      refine pr_call rfl (s_invV rfl rg_o rfl rfl) (r_leftAt (R := RT R g0 h0 L) (p := (tc t 1)) (q := (tc t 0)) (by omega) (by omega)) ?_
      refine pr_go rfl s_iconst ?_
      refine pr_go rfl (s_icmp_ne_f (fun e => e (hT_free hneg hgL (by omega) (by omega) hF))) ?_
      refine pr_go rfl (s_aload_n rfl) ?_
      refine pr_go rfl (s_iload rfl) ?_
      refine pr_go rfl (s_iload_n rfl) ?_
      refine pr_go rfl (s_aload_n rfl) ?_
      refine pr_go rfl (s_iload rfl) ?_
      refine pr_go rfl (s_iload_n rfl) ?_
      refine pr_call rfl (s_invV rfl rg_o rfl rfl) (r_cornerFor rg_o n3_a (by decide) (by decide) (p := (tc t 1)) (q := (tc t 0)) (by omega) (by omega)) ?_
      refine pr_call rfl (s_invV rfl rg_o rfl rfl) (r_comeT (p := (tc t 1)) (q := (tc t 0)) (r := (cornF R.a (tc t 1) (tc t 0))) (by omega) (by omega) (by omega) (by omega)) ?_
      refine pr_go rfl (s_iincN (y := nI 1) rfl (nI_add _ _) (lv' := [(2, .int (nI 1)), (4, .int (nI (tc t 1))), (3, .int (nI (tc t 0))), (0, .ref A.length), (1, .int (nI i))]) rfl) ?_
      refine pr_go rfl s_goto ?_
      exact pr_less (lvLe_of rfl rfl (by repeat' (first | exact (fun _ h => absurd h List.not_mem_nil) | refine List.forall_mem_cons.mpr ⟨rfl, ?_⟩))) K
  · rw [show stp2 R.a i L 0 = L from e9.trans (by rw [show (0 + 1) % 3 = 1 from rfl, hB]; rfl)] at hg K
    refine pr_go rfl (s_iload_n rfl) ?_
    refine pr_go rfl s_iconst ?_
    refine pr_go rfl (s_icmp_ge_f (by decide)) ?_
    refine pr_go rfl (s_aload_n rfl) ?_
    refine pr_go rfl (s_getf rg_o rfl) ?_
    refine pr_go rfl s_iconst ?_
    refine pr_go rfl (s_iload_n rfl) ?_
    refine pr_go rfl (s_imulN (c := 3 * i) rfl) ?_
    refine pr_go rfl (s_iload_n rfl) ?_
    refine pr_go rfl (s_iaddN (c := (3 * i) + 0) rfl) ?_
    refine pr_go rfl (s_ialdN (v := nI (tc t 0)) n3_tr (by omega) (by decide) rfl (gT_at (c := 0) ht (by decide))) ?_
    refine pr_go rfl (s_istore_n (lv' := [(3, .int (nI (tc t 0))), (0, .ref A.length), (1, .int (nI i)), (2, .int (nI 0))]) rfl) ?_
    refine pr_go rfl (s_aload_n rfl) ?_
    refine pr_go rfl (s_getf rg_o rfl) ?_
    refine pr_go rfl s_iconst ?_
    refine pr_go rfl (s_iload_n rfl) ?_
    refine pr_go rfl (s_imulN (c := 3 * i) rfl) ?_
    refine pr_go rfl (s_iload_n rfl) ?_
    refine pr_go rfl s_iconst ?_
    refine pr_go rfl (s_iaddN (c := 1) rfl) ?_
    refine pr_go rfl s_iconst ?_
    refine pr_go rfl (s_iremN (c := 1) (by omega) (by omega) (by omega) rfl) ?_
    refine pr_go rfl (s_iaddN (c := (3 * i) + 1) rfl) ?_
    refine pr_go rfl (s_ialdN (v := nI (tc t 1)) n3_tr (by omega) (by decide) rfl (gT_at (c := 1) ht (by decide))) ?_
    refine pr_go rfl (s_istore (lv' := [(4, .int (nI (tc t 1))), (3, .int (nI (tc t 0))), (0, .ref A.length), (1, .int (nI i)), (2, .int (nI 0))]) rfl) ?_
    refine pr_go rfl (s_aload_n rfl) ?_
    refine pr_go rfl (s_iload_n rfl) ?_
    refine pr_go rfl (s_iload rfl) ?_
    refine pr_call rfl (s_invV rfl rg_o rfl rfl) (r_isBorderB (p := (tc t 0)) (q := (tc t 1)) (by omega) (by omega)) ?_
    refine pr_go rfl (s_if_ne_t (by rw [hB]; decide)) ?_
    refine pr_go rfl (s_iincN (y := nI 1) rfl (nI_add _ _) (lv' := [(2, .int (nI 1)), (4, .int (nI (tc t 1))), (3, .int (nI (tc t 0))), (0, .ref A.length), (1, .int (nI i))]) rfl) ?_
    refine pr_go rfl s_goto ?_
    exact pr_less (lvLe_of rfl rfl (by repeat' (first | exact (fun _ h => absurd h List.not_mem_nil) | refine List.forall_mem_cons.mpr ⟨rfl, ?_⟩))) K
theorem l_lay2k1 {A : pW} {R : RS} {g0 h0 : Nat → Int32} {w1 : pW} (hneg : neg1 h0) {i : Nat} {L : List Tri} {t : Tri} (hi : i < 80) (ht : L[i]? = some t) (hg : good (stp2 R.a i L 1)) (K : pRest 219 (98, [(0, .ref A.length), (1, .int (nI i)), (2, .int (nI 2))], [], rW A (RT R g0 h0 (stp2 R.a i L 1))) none w1) : pRest 219 (98, [(0, .ref A.length), (1, .int (nI i)), (2, .int (nI 1))], [], rW A (RT R g0 h0 L)) none w1 := by
  have hgL : good L := good_pre stp2_pre hg
  have ht9 := hgL.1 t (List.mem_of_getElem? ht)
  have ha : tc t 1 < 40 := tc40 ht9
  have hb : tc t 2 < 40 := tc40 ht9
  have e9 := stp2_e (f := R.a) (k := 1) ht
  cases hB : bordF R.a (tc t 1) (tc t 2)
  · cases hF : isFree L (tc t 2) (tc t 1)
    · rw [show stp2 R.a i L 1 = L from e9.trans (by rw [show (1 + 1) % 3 = 2 from rfl, hB, hF]; rfl)] at hg K
      refine pr_go rfl (s_iload_n rfl) ?_
      refine pr_go rfl s_iconst ?_
      refine pr_go rfl (s_icmp_ge_f (by decide)) ?_
      refine pr_go rfl (s_aload_n rfl) ?_
      refine pr_go rfl (s_getf rg_o rfl) ?_
      refine pr_go rfl s_iconst ?_
      refine pr_go rfl (s_iload_n rfl) ?_
      refine pr_go rfl (s_imulN (c := 3 * i) rfl) ?_
      refine pr_go rfl (s_iload_n rfl) ?_
      refine pr_go rfl (s_iaddN (c := (3 * i) + 1) rfl) ?_
      refine pr_go rfl (s_ialdN (v := nI (tc t 1)) n3_tr (by omega) (by decide) rfl (gT_at (c := 1) ht (by decide))) ?_
      refine pr_go rfl (s_istore_n (lv' := [(3, .int (nI (tc t 1))), (0, .ref A.length), (1, .int (nI i)), (2, .int (nI 1))]) rfl) ?_
      refine pr_go rfl (s_aload_n rfl) ?_
      refine pr_go rfl (s_getf rg_o rfl) ?_
      refine pr_go rfl s_iconst ?_
      refine pr_go rfl (s_iload_n rfl) ?_
      refine pr_go rfl (s_imulN (c := 3 * i) rfl) ?_
      refine pr_go rfl (s_iload_n rfl) ?_
      refine pr_go rfl s_iconst ?_
      refine pr_go rfl (s_iaddN (c := 2) rfl) ?_
      refine pr_go rfl s_iconst ?_
      refine pr_go rfl (s_iremN (c := 2) (by omega) (by omega) (by omega) rfl) ?_
      refine pr_go rfl (s_iaddN (c := (3 * i) + 2) rfl) ?_
      refine pr_go rfl (s_ialdN (v := nI (tc t 2)) n3_tr (by omega) (by decide) rfl (gT_at (c := 2) ht (by decide))) ?_
      refine pr_go rfl (s_istore (lv' := [(4, .int (nI (tc t 2))), (3, .int (nI (tc t 1))), (0, .ref A.length), (1, .int (nI i)), (2, .int (nI 1))]) rfl) ?_
      refine pr_go rfl (s_aload_n rfl) ?_
      refine pr_go rfl (s_iload_n rfl) ?_
      refine pr_go rfl (s_iload rfl) ?_
      refine pr_call rfl (s_invV rfl rg_o rfl rfl) (r_isBorderB (p := (tc t 1)) (q := (tc t 2)) (by omega) (by omega)) ?_
      refine pr_go rfl (s_if_ne_f (by rw [hB]; decide)) ?_
      refine pr_go rfl (s_aload_n rfl) ?_
      refine pr_go rfl (s_iload rfl) ?_
      refine pr_go rfl (s_iload_n rfl) ?_
      refine pr_call rfl (s_invV rfl rg_o rfl rfl) (r_leftAt (R := RT R g0 h0 L) (p := (tc t 2)) (q := (tc t 1)) (by omega) (by omega)) ?_
      refine pr_go rfl s_iconst ?_
      refine pr_go rfl (s_icmp_ne_t (hT_nfree hgL (by omega) (by omega) hF)) ?_
      refine pr_go rfl (s_iincN (y := nI 2) rfl (nI_add _ _) (lv' := [(2, .int (nI 2)), (4, .int (nI (tc t 2))), (3, .int (nI (tc t 1))), (0, .ref A.length), (1, .int (nI i))]) rfl) ?_
      refine pr_go rfl s_goto ?_
      exact pr_less (lvLe_of rfl rfl (by repeat' (first | exact (fun _ h => absurd h List.not_mem_nil) | refine List.forall_mem_cons.mpr ⟨rfl, ?_⟩))) K
    · rw [show stp2 R.a i L 1 = L ++ [(tc t 2, tc t 1, cornF R.a (tc t 2) (tc t 1))] from e9.trans (by rw [show (1 + 1) % 3 = 2 from rfl, hB, hF]; rfl)] at hg K
      have hc : cornF R.a (tc t 2) (tc t 1) < 40 := (hg.1 _ (List.mem_append_right _ (List.mem_singleton.mpr rfl))).2.2
      have hn : L.length < 80 := by
        have := hg.2
        rw [List.length_append, List.length_singleton] at this
        omega
      refine pr_go rfl (s_iload_n rfl) ?_
      refine pr_go rfl s_iconst ?_
      refine pr_go rfl (s_icmp_ge_f (by decide)) ?_
      refine pr_go rfl (s_aload_n rfl) ?_
      refine pr_go rfl (s_getf rg_o rfl) ?_
      refine pr_go rfl s_iconst ?_
      refine pr_go rfl (s_iload_n rfl) ?_
      refine pr_go rfl (s_imulN (c := 3 * i) rfl) ?_
      refine pr_go rfl (s_iload_n rfl) ?_
      refine pr_go rfl (s_iaddN (c := (3 * i) + 1) rfl) ?_
      refine pr_go rfl (s_ialdN (v := nI (tc t 1)) n3_tr (by omega) (by decide) rfl (gT_at (c := 1) ht (by decide))) ?_
      refine pr_go rfl (s_istore_n (lv' := [(3, .int (nI (tc t 1))), (0, .ref A.length), (1, .int (nI i)), (2, .int (nI 1))]) rfl) ?_
      refine pr_go rfl (s_aload_n rfl) ?_
      refine pr_go rfl (s_getf rg_o rfl) ?_
      refine pr_go rfl s_iconst ?_
      refine pr_go rfl (s_iload_n rfl) ?_
      refine pr_go rfl (s_imulN (c := 3 * i) rfl) ?_
      refine pr_go rfl (s_iload_n rfl) ?_
      refine pr_go rfl s_iconst ?_
      refine pr_go rfl (s_iaddN (c := 2) rfl) ?_
      refine pr_go rfl s_iconst ?_
      refine pr_go rfl (s_iremN (c := 2) (by omega) (by omega) (by omega) rfl) ?_
      refine pr_go rfl (s_iaddN (c := (3 * i) + 2) rfl) ?_
      refine pr_go rfl (s_ialdN (v := nI (tc t 2)) n3_tr (by omega) (by decide) rfl (gT_at (c := 2) ht (by decide))) ?_
      refine pr_go rfl (s_istore (lv' := [(4, .int (nI (tc t 2))), (3, .int (nI (tc t 1))), (0, .ref A.length), (1, .int (nI i)), (2, .int (nI 1))]) rfl) ?_
      refine pr_go rfl (s_aload_n rfl) ?_
      refine pr_go rfl (s_iload_n rfl) ?_
      refine pr_go rfl (s_iload rfl) ?_
      refine pr_call rfl (s_invV rfl rg_o rfl rfl) (r_isBorderB (p := (tc t 1)) (q := (tc t 2)) (by omega) (by omega)) ?_
      refine pr_go rfl (s_if_ne_f (by rw [hB]; decide)) ?_
      refine pr_go rfl (s_aload_n rfl) ?_
      refine pr_go rfl (s_iload rfl) ?_
      refine pr_go rfl (s_iload_n rfl) ?_
      refine pr_call rfl (s_invV rfl rg_o rfl rfl) (r_leftAt (R := RT R g0 h0 L) (p := (tc t 2)) (q := (tc t 1)) (by omega) (by omega)) ?_
      refine pr_go rfl s_iconst ?_
      refine pr_go rfl (s_icmp_ne_f (fun e => e (hT_free hneg hgL (by omega) (by omega) hF))) ?_
      refine pr_go rfl (s_aload_n rfl) ?_
      refine pr_go rfl (s_iload rfl) ?_
      refine pr_go rfl (s_iload_n rfl) ?_
      refine pr_go rfl (s_aload_n rfl) ?_
      refine pr_go rfl (s_iload rfl) ?_
      refine pr_go rfl (s_iload_n rfl) ?_
      refine pr_call rfl (s_invV rfl rg_o rfl rfl) (r_cornerFor rg_o n3_a (by decide) (by decide) (p := (tc t 2)) (q := (tc t 1)) (by omega) (by omega)) ?_
      refine pr_call rfl (s_invV rfl rg_o rfl rfl) (r_comeT (p := (tc t 2)) (q := (tc t 1)) (r := (cornF R.a (tc t 2) (tc t 1))) (by omega) (by omega) (by omega) (by omega)) ?_
      refine pr_go rfl (s_iincN (y := nI 2) rfl (nI_add _ _) (lv' := [(2, .int (nI 2)), (4, .int (nI (tc t 2))), (3, .int (nI (tc t 1))), (0, .ref A.length), (1, .int (nI i))]) rfl) ?_
      refine pr_go rfl s_goto ?_
      exact pr_less (lvLe_of rfl rfl (by repeat' (first | exact (fun _ h => absurd h List.not_mem_nil) | refine List.forall_mem_cons.mpr ⟨rfl, ?_⟩))) K
  · rw [show stp2 R.a i L 1 = L from e9.trans (by rw [show (1 + 1) % 3 = 2 from rfl, hB]; rfl)] at hg K
    refine pr_go rfl (s_iload_n rfl) ?_
    refine pr_go rfl s_iconst ?_
    refine pr_go rfl (s_icmp_ge_f (by decide)) ?_
    refine pr_go rfl (s_aload_n rfl) ?_
    refine pr_go rfl (s_getf rg_o rfl) ?_
    refine pr_go rfl s_iconst ?_
    refine pr_go rfl (s_iload_n rfl) ?_
    refine pr_go rfl (s_imulN (c := 3 * i) rfl) ?_
    refine pr_go rfl (s_iload_n rfl) ?_
    refine pr_go rfl (s_iaddN (c := (3 * i) + 1) rfl) ?_
    refine pr_go rfl (s_ialdN (v := nI (tc t 1)) n3_tr (by omega) (by decide) rfl (gT_at (c := 1) ht (by decide))) ?_
    refine pr_go rfl (s_istore_n (lv' := [(3, .int (nI (tc t 1))), (0, .ref A.length), (1, .int (nI i)), (2, .int (nI 1))]) rfl) ?_
    refine pr_go rfl (s_aload_n rfl) ?_
    refine pr_go rfl (s_getf rg_o rfl) ?_
    refine pr_go rfl s_iconst ?_
    refine pr_go rfl (s_iload_n rfl) ?_
    refine pr_go rfl (s_imulN (c := 3 * i) rfl) ?_
    refine pr_go rfl (s_iload_n rfl) ?_
    refine pr_go rfl s_iconst ?_
    refine pr_go rfl (s_iaddN (c := 2) rfl) ?_
    refine pr_go rfl s_iconst ?_
    refine pr_go rfl (s_iremN (c := 2) (by omega) (by omega) (by omega) rfl) ?_
    refine pr_go rfl (s_iaddN (c := (3 * i) + 2) rfl) ?_
    refine pr_go rfl (s_ialdN (v := nI (tc t 2)) n3_tr (by omega) (by decide) rfl (gT_at (c := 2) ht (by decide))) ?_
    refine pr_go rfl (s_istore (lv' := [(4, .int (nI (tc t 2))), (3, .int (nI (tc t 1))), (0, .ref A.length), (1, .int (nI i)), (2, .int (nI 1))]) rfl) ?_
    refine pr_go rfl (s_aload_n rfl) ?_
    refine pr_go rfl (s_iload_n rfl) ?_
    refine pr_go rfl (s_iload rfl) ?_
    refine pr_call rfl (s_invV rfl rg_o rfl rfl) (r_isBorderB (p := (tc t 1)) (q := (tc t 2)) (by omega) (by omega)) ?_
    refine pr_go rfl (s_if_ne_t (by rw [hB]; decide)) ?_
    refine pr_go rfl (s_iincN (y := nI 2) rfl (nI_add _ _) (lv' := [(2, .int (nI 2)), (4, .int (nI (tc t 2))), (3, .int (nI (tc t 1))), (0, .ref A.length), (1, .int (nI i))]) rfl) ?_
    refine pr_go rfl s_goto ?_
    exact pr_less (lvLe_of rfl rfl (by repeat' (first | exact (fun _ h => absurd h List.not_mem_nil) | refine List.forall_mem_cons.mpr ⟨rfl, ?_⟩))) K
theorem l_lay2k2 {A : pW} {R : RS} {g0 h0 : Nat → Int32} {w1 : pW} (hneg : neg1 h0) {i : Nat} {L : List Tri} {t : Tri} (hi : i < 80) (ht : L[i]? = some t) (hg : good (stp2 R.a i L 2)) (K : pRest 219 (98, [(0, .ref A.length), (1, .int (nI i)), (2, .int (nI 3))], [], rW A (RT R g0 h0 (stp2 R.a i L 2))) none w1) : pRest 219 (98, [(0, .ref A.length), (1, .int (nI i)), (2, .int (nI 2))], [], rW A (RT R g0 h0 L)) none w1 := by
  have hgL : good L := good_pre stp2_pre hg
  have ht9 := hgL.1 t (List.mem_of_getElem? ht)
  have ha : tc t 2 < 40 := tc40 ht9
  have hb : tc t 0 < 40 := tc40 ht9
  have e9 := stp2_e (f := R.a) (k := 2) ht
  cases hB : bordF R.a (tc t 2) (tc t 0)
  · cases hF : isFree L (tc t 0) (tc t 2)
    · rw [show stp2 R.a i L 2 = L from e9.trans (by rw [show (2 + 1) % 3 = 0 from rfl, hB, hF]; rfl)] at hg K
      refine pr_go rfl (s_iload_n rfl) ?_
      refine pr_go rfl s_iconst ?_
      refine pr_go rfl (s_icmp_ge_f (by decide)) ?_
      refine pr_go rfl (s_aload_n rfl) ?_
      refine pr_go rfl (s_getf rg_o rfl) ?_
      refine pr_go rfl s_iconst ?_
      refine pr_go rfl (s_iload_n rfl) ?_
      refine pr_go rfl (s_imulN (c := 3 * i) rfl) ?_
      refine pr_go rfl (s_iload_n rfl) ?_
      refine pr_go rfl (s_iaddN (c := (3 * i) + 2) rfl) ?_
      refine pr_go rfl (s_ialdN (v := nI (tc t 2)) n3_tr (by omega) (by decide) rfl (gT_at (c := 2) ht (by decide))) ?_
      refine pr_go rfl (s_istore_n (lv' := [(3, .int (nI (tc t 2))), (0, .ref A.length), (1, .int (nI i)), (2, .int (nI 2))]) rfl) ?_
      refine pr_go rfl (s_aload_n rfl) ?_
      refine pr_go rfl (s_getf rg_o rfl) ?_
      refine pr_go rfl s_iconst ?_
      refine pr_go rfl (s_iload_n rfl) ?_
      refine pr_go rfl (s_imulN (c := 3 * i) rfl) ?_
      refine pr_go rfl (s_iload_n rfl) ?_
      refine pr_go rfl s_iconst ?_
      refine pr_go rfl (s_iaddN (c := 3) rfl) ?_
      refine pr_go rfl s_iconst ?_
      refine pr_go rfl (s_iremN (c := 0) (by omega) (by omega) (by omega) rfl) ?_
      refine pr_go rfl (s_iaddN (c := (3 * i) + 0) rfl) ?_
      refine pr_go rfl (s_ialdN (v := nI (tc t 0)) n3_tr (by omega) (by decide) rfl (gT_at (c := 0) ht (by decide))) ?_
      refine pr_go rfl (s_istore (lv' := [(4, .int (nI (tc t 0))), (3, .int (nI (tc t 2))), (0, .ref A.length), (1, .int (nI i)), (2, .int (nI 2))]) rfl) ?_
      refine pr_go rfl (s_aload_n rfl) ?_
      refine pr_go rfl (s_iload_n rfl) ?_
      refine pr_go rfl (s_iload rfl) ?_
      refine pr_call rfl (s_invV rfl rg_o rfl rfl) (r_isBorderB (p := (tc t 2)) (q := (tc t 0)) (by omega) (by omega)) ?_
      refine pr_go rfl (s_if_ne_f (by rw [hB]; decide)) ?_
      refine pr_go rfl (s_aload_n rfl) ?_
      refine pr_go rfl (s_iload rfl) ?_
      refine pr_go rfl (s_iload_n rfl) ?_
      refine pr_call rfl (s_invV rfl rg_o rfl rfl) (r_leftAt (R := RT R g0 h0 L) (p := (tc t 0)) (q := (tc t 2)) (by omega) (by omega)) ?_
      refine pr_go rfl s_iconst ?_
      refine pr_go rfl (s_icmp_ne_t (hT_nfree hgL (by omega) (by omega) hF)) ?_
      refine pr_go rfl (s_iincN (y := nI 3) rfl (nI_add _ _) (lv' := [(2, .int (nI 3)), (4, .int (nI (tc t 0))), (3, .int (nI (tc t 2))), (0, .ref A.length), (1, .int (nI i))]) rfl) ?_
      refine pr_go rfl s_goto ?_
      exact pr_less (lvLe_of rfl rfl (by repeat' (first | exact (fun _ h => absurd h List.not_mem_nil) | refine List.forall_mem_cons.mpr ⟨rfl, ?_⟩))) K
    · rw [show stp2 R.a i L 2 = L ++ [(tc t 0, tc t 2, cornF R.a (tc t 0) (tc t 2))] from e9.trans (by rw [show (2 + 1) % 3 = 0 from rfl, hB, hF]; rfl)] at hg K
      have hc : cornF R.a (tc t 0) (tc t 2) < 40 := (hg.1 _ (List.mem_append_right _ (List.mem_singleton.mpr rfl))).2.2
      have hn : L.length < 80 := by
        have := hg.2
        rw [List.length_append, List.length_singleton] at this
        omega
      refine pr_go rfl (s_iload_n rfl) ?_
      refine pr_go rfl s_iconst ?_
      refine pr_go rfl (s_icmp_ge_f (by decide)) ?_
      refine pr_go rfl (s_aload_n rfl) ?_
      refine pr_go rfl (s_getf rg_o rfl) ?_
      refine pr_go rfl s_iconst ?_
      refine pr_go rfl (s_iload_n rfl) ?_
      refine pr_go rfl (s_imulN (c := 3 * i) rfl) ?_
      refine pr_go rfl (s_iload_n rfl) ?_
      refine pr_go rfl (s_iaddN (c := (3 * i) + 2) rfl) ?_
      refine pr_go rfl (s_ialdN (v := nI (tc t 2)) n3_tr (by omega) (by decide) rfl (gT_at (c := 2) ht (by decide))) ?_
      refine pr_go rfl (s_istore_n (lv' := [(3, .int (nI (tc t 2))), (0, .ref A.length), (1, .int (nI i)), (2, .int (nI 2))]) rfl) ?_
      refine pr_go rfl (s_aload_n rfl) ?_
      refine pr_go rfl (s_getf rg_o rfl) ?_
      refine pr_go rfl s_iconst ?_
      refine pr_go rfl (s_iload_n rfl) ?_
      refine pr_go rfl (s_imulN (c := 3 * i) rfl) ?_
      refine pr_go rfl (s_iload_n rfl) ?_
      refine pr_go rfl s_iconst ?_
      refine pr_go rfl (s_iaddN (c := 3) rfl) ?_
      refine pr_go rfl s_iconst ?_
      refine pr_go rfl (s_iremN (c := 0) (by omega) (by omega) (by omega) rfl) ?_
      refine pr_go rfl (s_iaddN (c := (3 * i) + 0) rfl) ?_
      refine pr_go rfl (s_ialdN (v := nI (tc t 0)) n3_tr (by omega) (by decide) rfl (gT_at (c := 0) ht (by decide))) ?_
      refine pr_go rfl (s_istore (lv' := [(4, .int (nI (tc t 0))), (3, .int (nI (tc t 2))), (0, .ref A.length), (1, .int (nI i)), (2, .int (nI 2))]) rfl) ?_
      refine pr_go rfl (s_aload_n rfl) ?_
      refine pr_go rfl (s_iload_n rfl) ?_
      refine pr_go rfl (s_iload rfl) ?_
      refine pr_call rfl (s_invV rfl rg_o rfl rfl) (r_isBorderB (p := (tc t 2)) (q := (tc t 0)) (by omega) (by omega)) ?_
      refine pr_go rfl (s_if_ne_f (by rw [hB]; decide)) ?_
      refine pr_go rfl (s_aload_n rfl) ?_
      refine pr_go rfl (s_iload rfl) ?_
      refine pr_go rfl (s_iload_n rfl) ?_
      refine pr_call rfl (s_invV rfl rg_o rfl rfl) (r_leftAt (R := RT R g0 h0 L) (p := (tc t 0)) (q := (tc t 2)) (by omega) (by omega)) ?_
      refine pr_go rfl s_iconst ?_
      refine pr_go rfl (s_icmp_ne_f (fun e => e (hT_free hneg hgL (by omega) (by omega) hF))) ?_
      refine pr_go rfl (s_aload_n rfl) ?_
      refine pr_go rfl (s_iload rfl) ?_
      refine pr_go rfl (s_iload_n rfl) ?_
      refine pr_go rfl (s_aload_n rfl) ?_
      refine pr_go rfl (s_iload rfl) ?_
      refine pr_go rfl (s_iload_n rfl) ?_
      refine pr_call rfl (s_invV rfl rg_o rfl rfl) (r_cornerFor rg_o n3_a (by decide) (by decide) (p := (tc t 0)) (q := (tc t 2)) (by omega) (by omega)) ?_
      refine pr_call rfl (s_invV rfl rg_o rfl rfl) (r_comeT (p := (tc t 0)) (q := (tc t 2)) (r := (cornF R.a (tc t 0) (tc t 2))) (by omega) (by omega) (by omega) (by omega)) ?_
      refine pr_go rfl (s_iincN (y := nI 3) rfl (nI_add _ _) (lv' := [(2, .int (nI 3)), (4, .int (nI (tc t 0))), (3, .int (nI (tc t 2))), (0, .ref A.length), (1, .int (nI i))]) rfl) ?_
      refine pr_go rfl s_goto ?_
      exact pr_less (lvLe_of rfl rfl (by repeat' (first | exact (fun _ h => absurd h List.not_mem_nil) | refine List.forall_mem_cons.mpr ⟨rfl, ?_⟩))) K
  · rw [show stp2 R.a i L 2 = L from e9.trans (by rw [show (2 + 1) % 3 = 0 from rfl, hB]; rfl)] at hg K
    refine pr_go rfl (s_iload_n rfl) ?_
    refine pr_go rfl s_iconst ?_
    refine pr_go rfl (s_icmp_ge_f (by decide)) ?_
    refine pr_go rfl (s_aload_n rfl) ?_
    refine pr_go rfl (s_getf rg_o rfl) ?_
    refine pr_go rfl s_iconst ?_
    refine pr_go rfl (s_iload_n rfl) ?_
    refine pr_go rfl (s_imulN (c := 3 * i) rfl) ?_
    refine pr_go rfl (s_iload_n rfl) ?_
    refine pr_go rfl (s_iaddN (c := (3 * i) + 2) rfl) ?_
    refine pr_go rfl (s_ialdN (v := nI (tc t 2)) n3_tr (by omega) (by decide) rfl (gT_at (c := 2) ht (by decide))) ?_
    refine pr_go rfl (s_istore_n (lv' := [(3, .int (nI (tc t 2))), (0, .ref A.length), (1, .int (nI i)), (2, .int (nI 2))]) rfl) ?_
    refine pr_go rfl (s_aload_n rfl) ?_
    refine pr_go rfl (s_getf rg_o rfl) ?_
    refine pr_go rfl s_iconst ?_
    refine pr_go rfl (s_iload_n rfl) ?_
    refine pr_go rfl (s_imulN (c := 3 * i) rfl) ?_
    refine pr_go rfl (s_iload_n rfl) ?_
    refine pr_go rfl s_iconst ?_
    refine pr_go rfl (s_iaddN (c := 3) rfl) ?_
    refine pr_go rfl s_iconst ?_
    refine pr_go rfl (s_iremN (c := 0) (by omega) (by omega) (by omega) rfl) ?_
    refine pr_go rfl (s_iaddN (c := (3 * i) + 0) rfl) ?_
    refine pr_go rfl (s_ialdN (v := nI (tc t 0)) n3_tr (by omega) (by decide) rfl (gT_at (c := 0) ht (by decide))) ?_
    refine pr_go rfl (s_istore (lv' := [(4, .int (nI (tc t 0))), (3, .int (nI (tc t 2))), (0, .ref A.length), (1, .int (nI i)), (2, .int (nI 2))]) rfl) ?_
    refine pr_go rfl (s_aload_n rfl) ?_
    refine pr_go rfl (s_iload_n rfl) ?_
    refine pr_go rfl (s_iload rfl) ?_
    refine pr_call rfl (s_invV rfl rg_o rfl rfl) (r_isBorderB (p := (tc t 2)) (q := (tc t 0)) (by omega) (by omega)) ?_
    refine pr_go rfl (s_if_ne_t (by rw [hB]; decide)) ?_
    refine pr_go rfl (s_iincN (y := nI 3) rfl (nI_add _ _) (lv' := [(2, .int (nI 3)), (4, .int (nI (tc t 0))), (3, .int (nI (tc t 2))), (0, .ref A.length), (1, .int (nI i))]) rfl) ?_
    refine pr_go rfl s_goto ?_
    exact pr_less (lvLe_of rfl rfl (by repeat' (first | exact (fun _ h => absurd h List.not_mem_nil) | refine List.forall_mem_cons.mpr ⟨rfl, ?_⟩))) K
theorem pre_at {L M : List Tri} {i : Nat} {t : Tri} (h : L <+: M) (ht : L[i]? = some t) : M[i]? = some t := by
  obtain ⟨N, rfl⟩ := h
  rw [List.getElem?_append_left (List.getElem?_eq_some_iff.mp ht).1]
  exact ht
theorem l_lay2 {A : pW} {R : RS} {g0 h0 : Nat → Int32} {w1 : pW} (hneg : neg1 h0) : ∀ n i L M, i < 1000 - n → lay2 R.a n i L = some M → good M → pRest 219 (177, [(0, .ref A.length)], [], rW A (RT R g0 h0 M)) none w1 → pRest 219 (88, [(0, .ref A.length), (1, .int (nI i))], [], rW A (RT R g0 h0 L)) none w1 := by
  intro n
  induction n with
  | zero => intro i L M _ h; cases h
  | succ n ih =>
    intro i L M hin h hg K
    have hib : i < 2 ^ 31 := by omega
    have hgL : good L := good_pre (lay2_pre h) hg
    have hn9 := hgL.2
    have h : (bif Nat.ble (i + 1) L.length then lay2 R.a n (i + 1) (stp2 R.a i (stp2 R.a i (stp2 R.a i L 0) 1) 2) else some L) = some M := h
    cases e : Nat.ble (i + 1) L.length
    · rw [e] at h
      cases h
      have hi : L.length ≤ i := by
        have := fun z => Nat.ble_eq_true_of_le (n := i + 1) (m := L.length) z
        rw [e] at this
        exact Nat.le_of_not_lt (fun z => by cases this z)
      skip
      refine pr_go rfl (s_iload_n rfl) ?_
      refine pr_go rfl (s_aload_n rfl) ?_
      refine pr_go rfl (s_getf rg_o n3_n) ?_
      refine pr_go rfl (s_icmp_ge_t (nI_le hi hib)) ?_
      exact pr_less (lvLe_of rfl rfl (by repeat' (first | exact (fun _ h => absurd h List.not_mem_nil) | refine List.forall_mem_cons.mpr ⟨rfl, ?_⟩))) K
    · rw [e] at h
      have hi : i < L.length := Nat.le_of_ble_eq_true e
      have h : lay2 R.a n (i + 1) (stp2 R.a i (stp2 R.a i (stp2 R.a i L 0) 1) 2) = some M := h
      have ht := getD_of hi
      have hg3 : good (stp2 R.a i (stp2 R.a i (stp2 R.a i L 0) 1) 2) := good_pre (lay2_pre h) hg
      have hg2 : good (stp2 R.a i (stp2 R.a i L 0) 1) := good_pre stp2_pre hg3
      have hg1 : good (stp2 R.a i L 0) := good_pre stp2_pre hg2
      have K3 : pRest 219 (98, [(0, .ref A.length), (1, .int (nI i)), (2, .int (nI 3))], [], rW A (RT R g0 h0 (stp2 R.a i (stp2 R.a i (stp2 R.a i L 0) 1) 2))) none w1 := by
        refine pr_go rfl (s_iload_n rfl) ?_
        refine pr_go rfl s_iconst ?_
        refine pr_go rfl (s_icmp_ge_t (by decide)) ?_
        refine pr_go rfl (s_iincN (y := nI (i + 1)) rfl (nI_add _ _) (lv' := [(1, .int (nI (i + 1))), (0, .ref A.length), (2, .int (nI 3))]) rfl) ?_
        refine pr_go rfl s_goto ?_
        exact pr_less (lvLe_of rfl rfl (by repeat' (first | exact (fun _ h => absurd h List.not_mem_nil) | refine List.forall_mem_cons.mpr ⟨rfl, ?_⟩))) (ih (i + 1) _ M (by omega) h hg K)
      have K2 := l_lay2k2 hneg (by omega) (pre_at (stp2_pre.trans stp2_pre) ht) hg3 K3
      have K1 := l_lay2k1 hneg (by omega) (pre_at stp2_pre ht) hg2 K2
      have K0 := l_lay2k0 hneg (by omega) ht hg1 K1
      refine pr_go rfl (s_iload_n rfl) ?_
      refine pr_go rfl (s_aload_n rfl) ?_
      refine pr_go rfl (s_getf rg_o n3_n) ?_
      refine pr_go rfl (s_icmp_ge_f (nI_ge (by omega) (by omega))) ?_
      refine pr_go rfl s_iconst ?_
      refine pr_go rfl (s_istore_n (lv' := [(2, .int (nI 0)), (0, .ref A.length), (1, .int (nI i))]) rfl) ?_
      exact pr_less (lvLe_of rfl rfl (by repeat' (first | exact (fun _ h => absurd h List.not_mem_nil) | refine List.forall_mem_cons.mpr ⟨rfl, ?_⟩))) K0
/-- clearing what lies to the left -/
theorem l_layC {A : pW} {R : RS} {f g : Nat → Int32} {x : Int32} {w1 : pW} (K : pRest 219 (27, [(0, .ref A.length)], [], rW A (N3 R f (flF (nI 4294967295) g 1600) x)) none w1) : ∀ m i, i + m = 1600 → pRest 219 (7, [(0, .ref A.length), (1, .int (nI i))], [], rW A (N3 R f (flF (nI 4294967295) g i) x)) none w1 := by
  intro m
  induction m with
  | zero =>
    intro i hm
    have hm : i = 1600 := by omega
    subst hm
    refine pr_go rfl (s_iload_n rfl) ?_
    refine pr_go rfl s_sipush ?_
    refine pr_go rfl (s_icmp_ge_t (Int32.le_refl _)) ?_
    exact pr_less (lvLe_of rfl rfl (by repeat' (first | exact (fun _ h => absurd h List.not_mem_nil) | refine List.forall_mem_cons.mpr ⟨rfl, ?_⟩))) K
  | succ m ih =>
    intro i hm
    have ih := ih (i + 1) (by omega)
    rw [← flF_succ] at ih
    refine pr_go rfl (s_iload_n rfl) ?_
    refine pr_go rfl s_sipush ?_
    refine pr_go rfl (s_icmp_ge_f (nI_ge (by omega) (by omega))) ?_
    refine pr_go rfl (s_aload_n rfl) ?_
    refine pr_go rfl (s_getf rg_o rfl) ?_
    refine pr_go rfl (s_iload_n rfl) ?_
    refine pr_go rfl s_iconst ?_
    refine pr_go rfl (s_iastN n3_lf (by omega) (by decide) n3s_lf) ?_
    refine pr_go rfl (s_iincN (y := nI (i + 1)) rfl (nI_add _ _) (lv' := [(1, .int (nI (i + 1))), (0, .ref A.length)]) rfl) ?_
    refine pr_go rfl s_goto ?_
    exact pr_less (lvLe_of rfl rfl (by repeat' (first | exact (fun _ h => absurd h List.not_mem_nil) | refine List.forall_mem_cons.mpr ⟨rfl, ?_⟩))) ih
theorem flF_0 {v : Int32} {g : Nat → Int32} : flF v g 0 = g := by funext k; simp [flF]
theorem r_layMesh0 {A : pW} {R : RS} {L : List Tri} {w1 : pW} (hl : layF R.a = some L) (hg : good L) (hord : pRun 220 [.ref A.length] (rW A (RT R R.tr (flF (nI 4294967295) R.lf 1600) L)) none w1) : pRun 219 [.ref A.length] (rW A R) none w1 := by
  have hneg : neg1 (flF (nI 4294967295) R.lf 1600) := fun k hk => by unfold flF; rw [if_pos hk]
  have K3 : pRest 219 (177, [(0, .ref A.length)], [], rW A (RT R R.tr (flF (nI 4294967295) R.lf 1600) L)) none w1 := by
    refine pr_go rfl (s_aload_n rfl) ?_
    refine pr_call rfl (s_invV rfl rg_o rfl rfl) (hord) ?_
    exact pr_ret rfl rfl
  have hg1 : good (lay1 R.a 0 40 []) := good_pre (lay2_pre hl) hg
  have K2 : pRest 219 (86, [(0, .ref A.length)], [], rW A (RT R R.tr (flF (nI 4294967295) R.lf 1600) (lay1 R.a 0 40 []))) none w1 := by
    refine pr_go rfl s_iconst ?_
    refine pr_go rfl (s_istore_n (lv' := [(1, .int (nI 0)), (0, .ref A.length)]) rfl) ?_
    exact pr_less (lvLe_of rfl rfl (by repeat' (first | exact (fun _ h => absurd h List.not_mem_nil) | refine List.forall_mem_cons.mpr ⟨rfl, ?_⟩))) (l_lay2 hneg 82 0 _ L (by omega) hl hg K3)
  have K1 : pRest 219 (27, [(0, .ref A.length)], [], rW A (RT R R.tr (flF (nI 4294967295) R.lf 1600) [])) none w1 := by
    refine pr_go rfl s_iconst ?_
    refine pr_go rfl (s_istore_n (lv' := [(1, .int (nI 0)), (0, .ref A.length)]) rfl) ?_
    exact pr_less (lvLe_of rfl rfl (by repeat' (first | exact (fun _ h => absurd h List.not_mem_nil) | refine List.forall_mem_cons.mpr ⟨rfl, ?_⟩))) (l_lay1p hneg 40 0 [] rfl hg1 K2)
  have K0 := l_layC (f := R.tr) (g := R.lf) (x := nI 0) (w1 := w1) (R := R) (A := A) (by
    unfold RT at K1
    rw [gT_nil, hT_nil] at K1
    exact K1) 1600 0 rfl
  rw [flF_0] at K0
  refine pr_run rfl ?_
  rw [show rW A R = rW A (N3 R R.tr R.lf R.n) from by rw [n3_self]]
  refine pr_go rfl (s_aload_n rfl) ?_
  refine pr_go rfl s_iconst ?_
  refine pr_go rfl (s_putfN rg_o (show 4 < 19 from by decide) rfl n3s_n) ?_
  refine pr_go rfl s_iconst ?_
  refine pr_go rfl (s_istore_n (lv' := [(1, .int (nI 0)), (0, .ref A.length)]) rfl) ?_
  exact pr_less (lvLe_of rfl rfl (by repeat' (first | exact (fun _ h => absurd h List.not_mem_nil) | refine List.forall_mem_cons.mpr ⟨rfl, ?_⟩))) K0
