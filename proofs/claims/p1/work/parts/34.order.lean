/-! ORDERING THE TRIANGLES. Rows laid by program (wip/tools/lay.py, mk34.py). -/
theorem nI_dec1 {n : Nat} (h : 0 < n) : nI n + Int32.ofInt (-1) = nI (n - 1) := by
  obtain ⟨m, rfl⟩ : ∃ m, n = m + 1 := ⟨n - 1, by omega⟩
  rw [← nI_1, show (Int32.ofInt (-1)) = -1 from rfl, Nat.add_sub_cancel, ← Int32.sub_eq_add_neg, Int32.add_sub_cancel]
theorem r_codeOf {A : pW} {R : RS} {g0 h : Nat → Int32} {x : Int32} {L : List Tri} {k : Nat} {t : Tri} (hk : k < 80) (ht : L[k]? = some t) : pRun 221 [.ref A.length, .int (nI k)] (rW A (N3 R (gT g0 L) h x)) (some (.int (nI (codeT t)))) (rW A (N3 R (gT g0 L) h x)) := by
  refine pr_run rfl ?_
  refine pr_go rfl s_bipush ?_
  refine pr_go rfl (s_aload_n rfl) ?_
  refine pr_go rfl (s_getf rg_o rfl) ?_
  refine pr_go rfl s_iconst ?_
  refine pr_go rfl (s_iload_n rfl) ?_
  refine pr_go rfl (s_imulN (c := 3 * k) rfl) ?_
  refine pr_go rfl (s_ialdN (v := nI (tc t 0)) n3_tr (by omega) (by decide) rfl (gT_at (c := 0) ht (by decide))) ?_
  refine pr_go rfl (s_imulN (c := 40 * (tc t 0)) rfl) ?_
  refine pr_go rfl (s_aload_n rfl) ?_
  refine pr_go rfl (s_getf rg_o rfl) ?_
  refine pr_go rfl s_iconst ?_
  refine pr_go rfl (s_iload_n rfl) ?_
  refine pr_go rfl (s_imulN (c := 3 * k) rfl) ?_
  refine pr_go rfl s_iconst ?_
  refine pr_go rfl (s_iaddN (c := (3 * k) + 1) rfl) ?_
  refine pr_go rfl (s_ialdN (v := nI (tc t 1)) n3_tr (by omega) (by decide) rfl (gT_at (c := 1) ht (by decide))) ?_
  refine pr_go rfl (s_iaddN (c := (40 * (tc t 0)) + (tc t 1)) rfl) ?_
  refine pr_go rfl s_bipush ?_
  refine pr_go rfl (s_imulN (c := ((40 * (tc t 0)) + (tc t 1)) * 40) rfl) ?_
  refine pr_go rfl (s_aload_n rfl) ?_
  refine pr_go rfl (s_getf rg_o rfl) ?_
  refine pr_go rfl s_iconst ?_
  refine pr_go rfl (s_iload_n rfl) ?_
  refine pr_go rfl (s_imulN (c := 3 * k) rfl) ?_
  refine pr_go rfl s_iconst ?_
  refine pr_go rfl (s_iaddN (c := (3 * k) + 2) rfl) ?_
  refine pr_go rfl (s_ialdN (v := nI (tc t 2)) n3_tr (by omega) (by decide) rfl (gT_at (c := 2) ht (by decide))) ?_
  refine pr_go rfl (s_iaddN (c := (((40 * (tc t 0)) + (tc t 1)) * 40) + (tc t 2)) rfl) ?_
  exact pr_retE (r' := some (.int (nI ((((40 * (tc t 0)) + (tc t 1)) * 40) + (tc t 2))))) rfl s_retI rfl
theorem l_rotD {A : pW} {R : RS} {g0 h : Nat → Int32} {w1 : pW} {n : Nat} (hn : n ≤ 80) {i : Nat} {L : List Tri} {t : Tri} (hi : i < 80) (ht : L[i]? = some t) (h40 : in40 t) (ok : okT t = true) (K : pRest 220 (113, [(0, .ref A.length), (1, .int (nI i))], [], rW A (N3 R (gT g0 (L)) h (nI n))) none w1) : pRest 220 (10, [(0, .ref A.length), (1, .int (nI i))], [], rW A (N3 R (gT g0 (L)) h (nI n))) none w1 := by
  have z0 : tc t 0 < 40 := h40.1
  have z1 : tc t 1 < 40 := h40.2.1
  have z2 : tc t 2 < 40 := h40.2.2
  have ok2 : tc t 0 ≤ tc t 1 ∧ tc t 0 ≤ tc t 2 := by
    unfold okT at ok
    rw [Bool.and_eq_true] at ok
    exact ⟨Nat.le_of_ble_eq_true ok.1, Nat.le_of_ble_eq_true ok.2⟩
  refine pr_go rfl (s_aload_n rfl) ?_
  refine pr_go rfl (s_getf rg_o rfl) ?_
  refine pr_go rfl s_iconst ?_
  refine pr_go rfl (s_iload_n rfl) ?_
  refine pr_go rfl (s_imulN (c := 3 * i) rfl) ?_
  refine pr_go rfl (s_ialdN (v := nI (tc t 0)) n3_tr (by omega) (by decide) rfl (by exact gT_at (c := 0) ht (by decide))) ?_
  refine pr_go rfl (s_aload_n rfl) ?_
  refine pr_go rfl (s_getf rg_o rfl) ?_
  refine pr_go rfl s_iconst ?_
  refine pr_go rfl (s_iload_n rfl) ?_
  refine pr_go rfl (s_imulN (c := 3 * i) rfl) ?_
  refine pr_go rfl s_iconst ?_
  refine pr_go rfl (s_iaddN (c := (3 * i) + 1) rfl) ?_
  refine pr_go rfl (s_ialdN (v := nI (tc t 1)) n3_tr (by omega) (by decide) rfl (by exact gT_at (c := 1) ht (by decide))) ?_
  refine pr_go rfl (s_icmp_gt_f (nI_nlt (by omega) (by omega))) ?_
  refine pr_go rfl (s_aload_n rfl) ?_
  refine pr_go rfl (s_getf rg_o rfl) ?_
  refine pr_go rfl s_iconst ?_
  refine pr_go rfl (s_iload_n rfl) ?_
  refine pr_go rfl (s_imulN (c := 3 * i) rfl) ?_
  refine pr_go rfl (s_ialdN (v := nI (tc t 0)) n3_tr (by omega) (by decide) rfl (by exact gT_at (c := 0) ht (by decide))) ?_
  refine pr_go rfl (s_aload_n rfl) ?_
  refine pr_go rfl (s_getf rg_o rfl) ?_
  refine pr_go rfl s_iconst ?_
  refine pr_go rfl (s_iload_n rfl) ?_
  refine pr_go rfl (s_imulN (c := 3 * i) rfl) ?_
  refine pr_go rfl s_iconst ?_
  refine pr_go rfl (s_iaddN (c := (3 * i) + 2) rfl) ?_
  refine pr_go rfl (s_ialdN (v := nI (tc t 2)) n3_tr (by omega) (by decide) rfl (by exact gT_at (c := 2) ht (by decide))) ?_
  refine pr_go rfl (s_icmp_le_t (nI_le (by omega) (by omega))) ?_
  exact pr_less (lvLe_of rfl rfl (by repeat' (first | exact (fun _ h => absurd h List.not_mem_nil) | refine List.forall_mem_cons.mpr ⟨rfl, ?_⟩))) K
theorem l_rotS {A : pW} {R : RS} {g0 h : Nat → Int32} {w1 : pW} {n : Nat} (hn : n ≤ 80) {i : Nat} {L : List Tri} {t : Tri} (hi : i < 80) (ht : L[i]? = some t) (h40 : in40 t) (hl : i < L.length) (ok : okT t = false) (K : pRest 220 (10, [(0, .ref A.length), (1, .int (nI i))], [], rW A (N3 R (gT g0 (L.set i (rot1 t))) h (nI n))) none w1) : pRest 220 (10, [(0, .ref A.length), (1, .int (nI i))], [], rW A (N3 R (gT g0 (L)) h (nI n))) none w1 := by
  have z0 : tc t 0 < 40 := h40.1
  have z1 : tc t 1 < 40 := h40.2.1
  have z2 : tc t 2 < 40 := h40.2.2
  have K : pRest 220 (10, [(0, .ref A.length), (1, .int (nI i))], [], rW A (N3 R (gT g0 (L.set i (tc t 1, tc t 2, tc t 0))) h (nI n))) none w1 := K
  rw [← gT_set hl] at K
  rcases Nat.lt_or_ge (tc t 1) (tc t 0) with c1 | c1
  · skip
    refine pr_go rfl (s_aload_n rfl) ?_
    refine pr_go rfl (s_getf rg_o rfl) ?_
    refine pr_go rfl s_iconst ?_
    refine pr_go rfl (s_iload_n rfl) ?_
    refine pr_go rfl (s_imulN (c := 3 * i) rfl) ?_
    refine pr_go rfl (s_ialdN (v := nI (tc t 0)) n3_tr (by omega) (by decide) rfl (by exact gT_at (c := 0) ht (by decide))) ?_
    refine pr_go rfl (s_aload_n rfl) ?_
    refine pr_go rfl (s_getf rg_o rfl) ?_
    refine pr_go rfl s_iconst ?_
    refine pr_go rfl (s_iload_n rfl) ?_
    refine pr_go rfl (s_imulN (c := 3 * i) rfl) ?_
    refine pr_go rfl s_iconst ?_
    refine pr_go rfl (s_iaddN (c := (3 * i) + 1) rfl) ?_
    refine pr_go rfl (s_ialdN (v := nI (tc t 1)) n3_tr (by omega) (by decide) rfl (by exact gT_at (c := 1) ht (by decide))) ?_
    refine pr_go rfl (s_icmp_gt_t (nI_lt (by omega) (by omega))) ?_
    refine pr_go rfl (s_aload_n rfl) ?_
    refine pr_go rfl (s_getf rg_o rfl) ?_
    refine pr_go rfl s_iconst ?_
    refine pr_go rfl (s_iload_n rfl) ?_
    refine pr_go rfl (s_imulN (c := 3 * i) rfl) ?_
    refine pr_go rfl (s_ialdN (v := nI (tc t 0)) n3_tr (by omega) (by decide) rfl (by exact gT_at (c := 0) ht (by decide))) ?_
    refine pr_go rfl (s_istore_n (lv' := [(2, .int (nI (tc t 0))), (0, .ref A.length), (1, .int (nI i))]) rfl) ?_
    refine pr_go rfl (s_aload_n rfl) ?_
    refine pr_go rfl (s_getf rg_o rfl) ?_
    refine pr_go rfl s_iconst ?_
    refine pr_go rfl (s_iload_n rfl) ?_
    refine pr_go rfl (s_imulN (c := 3 * i) rfl) ?_
    refine pr_go rfl (s_aload_n rfl) ?_
    refine pr_go rfl (s_getf rg_o rfl) ?_
    refine pr_go rfl s_iconst ?_
    refine pr_go rfl (s_iload_n rfl) ?_
    refine pr_go rfl (s_imulN (c := 3 * i) rfl) ?_
    refine pr_go rfl s_iconst ?_
    refine pr_go rfl (s_iaddN (c := (3 * i) + 1) rfl) ?_
    refine pr_go rfl (s_ialdN (v := nI (tc t 1)) n3_tr (by omega) (by decide) rfl (by exact gT_at (c := 1) ht (by decide))) ?_
    refine pr_go rfl (s_iastN n3_tr (by omega) (by decide) n3s_tr) ?_
    refine pr_go rfl (s_aload_n rfl) ?_
    refine pr_go rfl (s_getf rg_o rfl) ?_
    refine pr_go rfl s_iconst ?_
    refine pr_go rfl (s_iload_n rfl) ?_
    refine pr_go rfl (s_imulN (c := 3 * i) rfl) ?_
    refine pr_go rfl s_iconst ?_
    refine pr_go rfl (s_iaddN (c := (3 * i) + 1) rfl) ?_
    refine pr_go rfl (s_aload_n rfl) ?_
    refine pr_go rfl (s_getf rg_o rfl) ?_
    refine pr_go rfl s_iconst ?_
    refine pr_go rfl (s_iload_n rfl) ?_
    refine pr_go rfl (s_imulN (c := 3 * i) rfl) ?_
    refine pr_go rfl s_iconst ?_
    refine pr_go rfl (s_iaddN (c := (3 * i) + 2) rfl) ?_
    refine pr_go rfl (s_ialdN (v := nI (tc t 2)) n3_tr (by omega) (by decide) rfl (by rw [updN (by omega)]; exact gT_at (c := 2) ht (by decide))) ?_
    refine pr_go rfl (s_iastN n3_tr (by omega) (by decide) n3s_tr) ?_
    refine pr_go rfl (s_aload_n rfl) ?_
    refine pr_go rfl (s_getf rg_o rfl) ?_
    refine pr_go rfl s_iconst ?_
    refine pr_go rfl (s_iload_n rfl) ?_
    refine pr_go rfl (s_imulN (c := 3 * i) rfl) ?_
    refine pr_go rfl s_iconst ?_
    refine pr_go rfl (s_iaddN (c := (3 * i) + 2) rfl) ?_
    refine pr_go rfl (s_iload_n rfl) ?_
    refine pr_go rfl (s_iastN n3_tr (by omega) (by decide) n3s_tr) ?_
    refine pr_go rfl s_goto ?_
    exact pr_less (lvLe_of rfl rfl (by repeat' (first | exact (fun _ h => absurd h List.not_mem_nil) | refine List.forall_mem_cons.mpr ⟨rfl, ?_⟩))) K
  · have c2 : tc t 2 < tc t 0 := by
      rcases Nat.lt_or_ge (tc t 2) (tc t 0) with c2 | c2
      · exact c2
      · have : okT t = true := by
          unfold okT
          rw [Bool.and_eq_true]
          exact ⟨Nat.ble_eq_true_of_le c1, Nat.ble_eq_true_of_le c2⟩
        rw [this] at ok
        cases ok
    refine pr_go rfl (s_aload_n rfl) ?_
    refine pr_go rfl (s_getf rg_o rfl) ?_
    refine pr_go rfl s_iconst ?_
    refine pr_go rfl (s_iload_n rfl) ?_
    refine pr_go rfl (s_imulN (c := 3 * i) rfl) ?_
    refine pr_go rfl (s_ialdN (v := nI (tc t 0)) n3_tr (by omega) (by decide) rfl (by exact gT_at (c := 0) ht (by decide))) ?_
    refine pr_go rfl (s_aload_n rfl) ?_
    refine pr_go rfl (s_getf rg_o rfl) ?_
    refine pr_go rfl s_iconst ?_
    refine pr_go rfl (s_iload_n rfl) ?_
    refine pr_go rfl (s_imulN (c := 3 * i) rfl) ?_
    refine pr_go rfl s_iconst ?_
    refine pr_go rfl (s_iaddN (c := (3 * i) + 1) rfl) ?_
    refine pr_go rfl (s_ialdN (v := nI (tc t 1)) n3_tr (by omega) (by decide) rfl (by exact gT_at (c := 1) ht (by decide))) ?_
    refine pr_go rfl (s_icmp_gt_f (nI_nlt (by omega) (by omega))) ?_
    refine pr_go rfl (s_aload_n rfl) ?_
    refine pr_go rfl (s_getf rg_o rfl) ?_
    refine pr_go rfl s_iconst ?_
    refine pr_go rfl (s_iload_n rfl) ?_
    refine pr_go rfl (s_imulN (c := 3 * i) rfl) ?_
    refine pr_go rfl (s_ialdN (v := nI (tc t 0)) n3_tr (by omega) (by decide) rfl (by exact gT_at (c := 0) ht (by decide))) ?_
    refine pr_go rfl (s_aload_n rfl) ?_
    refine pr_go rfl (s_getf rg_o rfl) ?_
    refine pr_go rfl s_iconst ?_
    refine pr_go rfl (s_iload_n rfl) ?_
    refine pr_go rfl (s_imulN (c := 3 * i) rfl) ?_
    refine pr_go rfl s_iconst ?_
    refine pr_go rfl (s_iaddN (c := (3 * i) + 2) rfl) ?_
    refine pr_go rfl (s_ialdN (v := nI (tc t 2)) n3_tr (by omega) (by decide) rfl (by exact gT_at (c := 2) ht (by decide))) ?_
    refine pr_go rfl (s_icmp_le_f (nI_ge (by omega) (by omega))) ?_
    refine pr_go rfl (s_aload_n rfl) ?_
    refine pr_go rfl (s_getf rg_o rfl) ?_
    refine pr_go rfl s_iconst ?_
    refine pr_go rfl (s_iload_n rfl) ?_
    refine pr_go rfl (s_imulN (c := 3 * i) rfl) ?_
    refine pr_go rfl (s_ialdN (v := nI (tc t 0)) n3_tr (by omega) (by decide) rfl (by exact gT_at (c := 0) ht (by decide))) ?_
    refine pr_go rfl (s_istore_n (lv' := [(2, .int (nI (tc t 0))), (0, .ref A.length), (1, .int (nI i))]) rfl) ?_
    refine pr_go rfl (s_aload_n rfl) ?_
    refine pr_go rfl (s_getf rg_o rfl) ?_
    refine pr_go rfl s_iconst ?_
    refine pr_go rfl (s_iload_n rfl) ?_
    refine pr_go rfl (s_imulN (c := 3 * i) rfl) ?_
    refine pr_go rfl (s_aload_n rfl) ?_
    refine pr_go rfl (s_getf rg_o rfl) ?_
    refine pr_go rfl s_iconst ?_
    refine pr_go rfl (s_iload_n rfl) ?_
    refine pr_go rfl (s_imulN (c := 3 * i) rfl) ?_
    refine pr_go rfl s_iconst ?_
    refine pr_go rfl (s_iaddN (c := (3 * i) + 1) rfl) ?_
    refine pr_go rfl (s_ialdN (v := nI (tc t 1)) n3_tr (by omega) (by decide) rfl (by exact gT_at (c := 1) ht (by decide))) ?_
    refine pr_go rfl (s_iastN n3_tr (by omega) (by decide) n3s_tr) ?_
    refine pr_go rfl (s_aload_n rfl) ?_
    refine pr_go rfl (s_getf rg_o rfl) ?_
    refine pr_go rfl s_iconst ?_
    refine pr_go rfl (s_iload_n rfl) ?_
    refine pr_go rfl (s_imulN (c := 3 * i) rfl) ?_
    refine pr_go rfl s_iconst ?_
    refine pr_go rfl (s_iaddN (c := (3 * i) + 1) rfl) ?_
    refine pr_go rfl (s_aload_n rfl) ?_
    refine pr_go rfl (s_getf rg_o rfl) ?_
    refine pr_go rfl s_iconst ?_
    refine pr_go rfl (s_iload_n rfl) ?_
    refine pr_go rfl (s_imulN (c := 3 * i) rfl) ?_
    refine pr_go rfl s_iconst ?_
    refine pr_go rfl (s_iaddN (c := (3 * i) + 2) rfl) ?_
    refine pr_go rfl (s_ialdN (v := nI (tc t 2)) n3_tr (by omega) (by decide) rfl (by rw [updN (by omega)]; exact gT_at (c := 2) ht (by decide))) ?_
    refine pr_go rfl (s_iastN n3_tr (by omega) (by decide) n3s_tr) ?_
    refine pr_go rfl (s_aload_n rfl) ?_
    refine pr_go rfl (s_getf rg_o rfl) ?_
    refine pr_go rfl s_iconst ?_
    refine pr_go rfl (s_iload_n rfl) ?_
    refine pr_go rfl (s_imulN (c := 3 * i) rfl) ?_
    refine pr_go rfl s_iconst ?_
    refine pr_go rfl (s_iaddN (c := (3 * i) + 2) rfl) ?_
    refine pr_go rfl (s_iload_n rfl) ?_
    refine pr_go rfl (s_iastN n3_tr (by omega) (by decide) n3s_tr) ?_
    refine pr_go rfl s_goto ?_
    exact pr_less (lvLe_of rfl rfl (by repeat' (first | exact (fun _ h => absurd h List.not_mem_nil) | refine List.forall_mem_cons.mpr ⟨rfl, ?_⟩))) K
theorem l_rot {A : pW} {R : RS} {g0 h : Nat → Int32} {w1 : pW} {n : Nat} (hn : n ≤ 80) {i : Nat} {L : List Tri} {t : Tri} (hi : i < 80) (ht : L[i]? = some t) (h40 : in40 t) (hl : i < L.length) (K : pRest 220 (113, [(0, .ref A.length), (1, .int (nI i))], [], rW A (N3 R (gT g0 (L.set i (rotT t))) h (nI n))) none w1) : pRest 220 (10, [(0, .ref A.length), (1, .int (nI i))], [], rW A (N3 R (gT g0 (L)) h (nI n))) none w1 := by
  unfold rotT at K
  have gs : ∀ u : Tri, (L.set i u)[i]? = some u := fun u => by rw [List.getElem?_set, if_pos rfl, if_pos hl]
  have gl : ∀ u : Tri, i < (L.set i u).length := fun u => by rw [List.length_set]; exact hl
  cases o1 : okT t
  · refine l_rotS hn hi ht h40 hl o1 ?_
    rw [o1] at K
    cases o2 : okT (rot1 t)
    · refine l_rotS hn hi (gs _) (rot1_in h40) (gl _) o2 ?_
      rw [List.set_set]
      rw [o2] at K
      exact l_rotD hn hi (by rw [List.getElem?_set, if_pos rfl, if_pos hl]) (rot1_in (rot1_in h40)) (rotT_ok t o1 o2) K
    · rw [o2] at K
      exact l_rotD hn hi (gs _) (rot1_in h40) o2 K
  · rw [o1] at K
    have K : pRest 220 (113, [(0, .ref A.length), (1, .int (nI i))], [], rW A (N3 R (gT g0 (L.set i t)) h (nI n))) none w1 := K
    rw [show L.set i t = L from by
      apply List.ext_getElem?
      intro j
      rw [List.getElem?_set]
      split
      · rename_i e; subst e; exact ht.symm
      · rfl] at K
    exact l_rotD hn hi ht h40 o1 K
theorem l_sink {A : pW} {R : RS} {g0 h : Nat → Int32} {w1 : pW} {n : Nat} (hn : n ≤ 80) {i : Nat} : ∀ k L, L.length = n → k < n → good L → pRest 220 (201, [(0, .ref A.length), (1, .int (nI i))], [], rW A (N3 R (gT g0 (sinkL k L)) h (nI n))) none w1 → pRest 220 (115, [(0, .ref A.length), (1, .int (nI i)), (2, .int (nI k))], [], rW A (N3 R (gT g0 (L)) h (nI n))) none w1 := by
  intro k
  induction k with
  | zero =>
    intro L hl hk hg K
    refine pr_go rfl (s_iload_n rfl) ?_
    refine pr_go rfl (s_if_le_t (Int32.le_refl _)) ?_
    exact pr_less (lvLe_of rfl rfl (by repeat' (first | exact (fun _ h => absurd h List.not_mem_nil) | refine List.forall_mem_cons.mpr ⟨rfl, ?_⟩))) K
  | succ k ih =>
    intro L hl hk hg K
    have ht : L[k + 1]? = some (L.getD (k + 1) t000) := getD_of (by omega)
    have hu : L[k]? = some (L.getD k t000) := getD_of (by omega)
    have g1 : in40 (L.getD (k + 1) t000) := good_getD hg
    have g2 : in40 (L.getD k t000) := good_getD hg
    have cb : ∀ t : Tri, in40 t → codeT t < 64000 := fun t ht => by
      unfold codeT
      have := ht.1
      have := ht.2.1
      have := ht.2.2
      omega
    have cb1 := cb _ g1
    have cb2 := cb _ g2
    have e9 : sinkL (k + 1) L = bif Nat.ble (codeT (L.getD (k + 1) t000) + 1) (codeT (L.getD k t000)) then sinkL k (swapL L k) else L := rfl
    rw [e9] at K
    have esw : swapL L k = (L.set (k + 1) (L.getD k t000)).set k (L.getD (k + 1) t000) := rfl
    revert ht hu g1 g2 cb1 cb2 e9 esw K
    generalize L.getD (k + 1) t000 = t
    generalize L.getD k t000 = u
    intro K ht hu g1 g2 cb1 cb2 e9 esw
    cases ec : Nat.ble (codeT t + 1) (codeT u)
    · rw [ec] at K
      have cc : codeT u ≤ codeT t := Nat.le_of_not_lt (fun z => by
        have := Nat.ble_eq_true_of_le (n := codeT t + 1) (m := codeT u) z
        rw [ec] at this
        cases this)
      refine pr_go rfl (s_iload_n rfl) ?_
      refine pr_go rfl (s_if_le_f (nI_nle (by omega) (by omega))) ?_
      refine pr_go rfl (s_aload_n rfl) ?_
      refine pr_go rfl (s_iload_n rfl) ?_
      refine pr_call rfl (s_invV rfl rg_o rfl rfl) (r_codeOf (k := k + 1) (by omega) ht) ?_
      refine pr_go rfl (s_aload_n rfl) ?_
      refine pr_go rfl (s_iload_n rfl) ?_
      refine pr_go rfl s_iconst ?_
      refine pr_go rfl (s_isubN (c := k) (by omega) (by omega)) ?_
      refine pr_call rfl (s_invV rfl rg_o rfl rfl) (r_codeOf (k := k) (by omega) hu) ?_
      refine pr_go rfl (s_icmp_ge_t (nI_le (by omega) (by omega))) ?_
      exact pr_less (lvLe_of rfl rfl (by repeat' (first | exact (fun _ h => absurd h List.not_mem_nil) | refine List.forall_mem_cons.mpr ⟨rfl, ?_⟩))) K
    · rw [ec] at K
      have cc : codeT t + 1 ≤ codeT u := Nat.le_of_ble_eq_true ec
      have K : pRest 220 (201, [(0, .ref A.length), (1, .int (nI i))], [], rW A (N3 R (gT g0 (sinkL k (swapL L k))) h (nI n))) none w1 := K
      have ih := ih (swapL L k) (by rw [swapL_len]; exact hl) (by omega) (good_swap hg) K
      rw [esw, ← gT_swap ht hu] at ih
      refine pr_go rfl (s_iload_n rfl) ?_
      refine pr_go rfl (s_if_le_f (nI_nle (by omega) (by omega))) ?_
      refine pr_go rfl (s_aload_n rfl) ?_
      refine pr_go rfl (s_iload_n rfl) ?_
      refine pr_call rfl (s_invV rfl rg_o rfl rfl) (r_codeOf (k := k + 1) (by omega) ht) ?_
      refine pr_go rfl (s_aload_n rfl) ?_
      refine pr_go rfl (s_iload_n rfl) ?_
      refine pr_go rfl s_iconst ?_
      refine pr_go rfl (s_isubN (c := k) (by omega) (by omega)) ?_
      refine pr_call rfl (s_invV rfl rg_o rfl rfl) (r_codeOf (k := k) (by omega) hu) ?_
      refine pr_go rfl (s_icmp_ge_f (nI_ge (by omega) (by omega))) ?_
      refine pr_go rfl s_iconst ?_
      refine pr_go rfl (s_istore_n (lv' := [(3, .int (nI 0)), (0, .ref A.length), (1, .int (nI i)), (2, .int (nI (k + 1)))]) rfl) ?_
      refine pr_go rfl (s_iload_n rfl) ?_
      refine pr_go rfl s_iconst ?_
      refine pr_go rfl (s_icmp_ge_f (by decide)) ?_
      refine pr_go rfl (s_aload_n rfl) ?_
      refine pr_go rfl (s_getf rg_o rfl) ?_
      refine pr_go rfl s_iconst ?_
      refine pr_go rfl (s_iload_n rfl) ?_
      refine pr_go rfl (s_imulN (c := 3 * (k + 1)) rfl) ?_
      refine pr_go rfl (s_iload_n rfl) ?_
      refine pr_go rfl (s_iaddN (c := 3 * (k + 1)) rfl) ?_
      refine pr_go rfl (s_ialdN (v := nI (tc t 0)) n3_tr (by omega) (by decide) rfl (by exact gT_at (c := 0) ht (by decide))) ?_
      refine pr_go rfl (s_istore (lv' := [(4, .int (nI (tc t 0))), (3, .int (nI 0)), (0, .ref A.length), (1, .int (nI i)), (2, .int (nI (k + 1)))]) rfl) ?_
      refine pr_go rfl (s_aload_n rfl) ?_
      refine pr_go rfl (s_getf rg_o rfl) ?_
      refine pr_go rfl s_iconst ?_
      refine pr_go rfl (s_iload_n rfl) ?_
      refine pr_go rfl (s_imulN (c := 3 * (k + 1)) rfl) ?_
      refine pr_go rfl (s_iload_n rfl) ?_
      refine pr_go rfl (s_iaddN (c := 3 * (k + 1)) rfl) ?_
      refine pr_go rfl (s_aload_n rfl) ?_
      refine pr_go rfl (s_getf rg_o rfl) ?_
      refine pr_go rfl s_iconst ?_
      refine pr_go rfl (s_iload_n rfl) ?_
      refine pr_go rfl (s_imulN (c := 3 * (k + 1)) rfl) ?_
      refine pr_go rfl s_iconst ?_
      refine pr_go rfl (s_isubN (c := 3 * k) (by omega) (by omega)) ?_
      refine pr_go rfl (s_iload_n rfl) ?_
      refine pr_go rfl (s_iaddN (c := 3 * k) rfl) ?_
      refine pr_go rfl (s_ialdN (v := nI (tc u 0)) n3_tr (by omega) (by decide) rfl (by exact gT_at (c := 0) hu (by decide))) ?_
      refine pr_go rfl (s_iastN n3_tr (by omega) (by decide) n3s_tr) ?_
      refine pr_go rfl (s_aload_n rfl) ?_
      refine pr_go rfl (s_getf rg_o rfl) ?_
      refine pr_go rfl s_iconst ?_
      refine pr_go rfl (s_iload_n rfl) ?_
      refine pr_go rfl (s_imulN (c := 3 * (k + 1)) rfl) ?_
      refine pr_go rfl s_iconst ?_
      refine pr_go rfl (s_isubN (c := 3 * k) (by omega) (by omega)) ?_
      refine pr_go rfl (s_iload_n rfl) ?_
      refine pr_go rfl (s_iaddN (c := 3 * k) rfl) ?_
      refine pr_go rfl (s_iload rfl) ?_
      refine pr_go rfl (s_iastN n3_tr (by omega) (by decide) n3s_tr) ?_
      refine pr_go rfl (s_iincN (y := nI 1) rfl (nI_add _ _) (lv' := [(3, .int (nI 1)), (4, .int (nI (tc t 0))), (0, .ref A.length), (1, .int (nI i)), (2, .int (nI (k + 1)))]) rfl) ?_
      refine pr_go rfl s_goto ?_
      refine pr_go rfl (s_iload_n rfl) ?_
      refine pr_go rfl s_iconst ?_
      refine pr_go rfl (s_icmp_ge_f (by decide)) ?_
      refine pr_go rfl (s_aload_n rfl) ?_
      refine pr_go rfl (s_getf rg_o rfl) ?_
      refine pr_go rfl s_iconst ?_
      refine pr_go rfl (s_iload_n rfl) ?_
      refine pr_go rfl (s_imulN (c := 3 * (k + 1)) rfl) ?_
      refine pr_go rfl (s_iload_n rfl) ?_
      refine pr_go rfl (s_iaddN (c := (3 * (k + 1)) + 1) rfl) ?_
      refine pr_go rfl (s_ialdN (v := nI (tc t 1)) n3_tr (by omega) (by decide) rfl (by rw [updN (by omega)]; rw [updN (by omega)]; exact gT_at (c := 1) ht (by decide))) ?_
      refine pr_go rfl (s_istore (lv' := [(4, .int (nI (tc t 1))), (3, .int (nI 1)), (0, .ref A.length), (1, .int (nI i)), (2, .int (nI (k + 1)))]) rfl) ?_
      refine pr_go rfl (s_aload_n rfl) ?_
      refine pr_go rfl (s_getf rg_o rfl) ?_
      refine pr_go rfl s_iconst ?_
      refine pr_go rfl (s_iload_n rfl) ?_
      refine pr_go rfl (s_imulN (c := 3 * (k + 1)) rfl) ?_
      refine pr_go rfl (s_iload_n rfl) ?_
      refine pr_go rfl (s_iaddN (c := (3 * (k + 1)) + 1) rfl) ?_
      refine pr_go rfl (s_aload_n rfl) ?_
      refine pr_go rfl (s_getf rg_o rfl) ?_
      refine pr_go rfl s_iconst ?_
      refine pr_go rfl (s_iload_n rfl) ?_
      refine pr_go rfl (s_imulN (c := 3 * (k + 1)) rfl) ?_
      refine pr_go rfl s_iconst ?_
      refine pr_go rfl (s_isubN (c := 3 * k) (by omega) (by omega)) ?_
      refine pr_go rfl (s_iload_n rfl) ?_
      refine pr_go rfl (s_iaddN (c := (3 * k) + 1) rfl) ?_
      refine pr_go rfl (s_ialdN (v := nI (tc u 1)) n3_tr (by omega) (by decide) rfl (by rw [updN (by omega)]; rw [updN (by omega)]; exact gT_at (c := 1) hu (by decide))) ?_
      refine pr_go rfl (s_iastN n3_tr (by omega) (by decide) n3s_tr) ?_
      refine pr_go rfl (s_aload_n rfl) ?_
      refine pr_go rfl (s_getf rg_o rfl) ?_
      refine pr_go rfl s_iconst ?_
      refine pr_go rfl (s_iload_n rfl) ?_
      refine pr_go rfl (s_imulN (c := 3 * (k + 1)) rfl) ?_
      refine pr_go rfl s_iconst ?_
      refine pr_go rfl (s_isubN (c := 3 * k) (by omega) (by omega)) ?_
      refine pr_go rfl (s_iload_n rfl) ?_
      refine pr_go rfl (s_iaddN (c := (3 * k) + 1) rfl) ?_
      refine pr_go rfl (s_iload rfl) ?_
      refine pr_go rfl (s_iastN n3_tr (by omega) (by decide) n3s_tr) ?_
      refine pr_go rfl (s_iincN (y := nI 2) rfl (nI_add _ _) (lv' := [(3, .int (nI 2)), (4, .int (nI (tc t 1))), (0, .ref A.length), (1, .int (nI i)), (2, .int (nI (k + 1)))]) rfl) ?_
      refine pr_go rfl s_goto ?_
      refine pr_go rfl (s_iload_n rfl) ?_
      refine pr_go rfl s_iconst ?_
      refine pr_go rfl (s_icmp_ge_f (by decide)) ?_
      refine pr_go rfl (s_aload_n rfl) ?_
      refine pr_go rfl (s_getf rg_o rfl) ?_
      refine pr_go rfl s_iconst ?_
      refine pr_go rfl (s_iload_n rfl) ?_
      refine pr_go rfl (s_imulN (c := 3 * (k + 1)) rfl) ?_
      refine pr_go rfl (s_iload_n rfl) ?_
      refine pr_go rfl (s_iaddN (c := (3 * (k + 1)) + 2) rfl) ?_
      refine pr_go rfl (s_ialdN (v := nI (tc t 2)) n3_tr (by omega) (by decide) rfl (by rw [updN (by omega)]; rw [updN (by omega)]; rw [updN (by omega)]; rw [updN (by omega)]; exact gT_at (c := 2) ht (by decide))) ?_
      refine pr_go rfl (s_istore (lv' := [(4, .int (nI (tc t 2))), (3, .int (nI 2)), (0, .ref A.length), (1, .int (nI i)), (2, .int (nI (k + 1)))]) rfl) ?_
      refine pr_go rfl (s_aload_n rfl) ?_
      refine pr_go rfl (s_getf rg_o rfl) ?_
      refine pr_go rfl s_iconst ?_
      refine pr_go rfl (s_iload_n rfl) ?_
      refine pr_go rfl (s_imulN (c := 3 * (k + 1)) rfl) ?_
      refine pr_go rfl (s_iload_n rfl) ?_
      refine pr_go rfl (s_iaddN (c := (3 * (k + 1)) + 2) rfl) ?_
      refine pr_go rfl (s_aload_n rfl) ?_
      refine pr_go rfl (s_getf rg_o rfl) ?_
      refine pr_go rfl s_iconst ?_
      refine pr_go rfl (s_iload_n rfl) ?_
      refine pr_go rfl (s_imulN (c := 3 * (k + 1)) rfl) ?_
      refine pr_go rfl s_iconst ?_
      refine pr_go rfl (s_isubN (c := 3 * k) (by omega) (by omega)) ?_
      refine pr_go rfl (s_iload_n rfl) ?_
      refine pr_go rfl (s_iaddN (c := (3 * k) + 2) rfl) ?_
      refine pr_go rfl (s_ialdN (v := nI (tc u 2)) n3_tr (by omega) (by decide) rfl (by rw [updN (by omega)]; rw [updN (by omega)]; rw [updN (by omega)]; rw [updN (by omega)]; exact gT_at (c := 2) hu (by decide))) ?_
      refine pr_go rfl (s_iastN n3_tr (by omega) (by decide) n3s_tr) ?_
      refine pr_go rfl (s_aload_n rfl) ?_
      refine pr_go rfl (s_getf rg_o rfl) ?_
      refine pr_go rfl s_iconst ?_
      refine pr_go rfl (s_iload_n rfl) ?_
      refine pr_go rfl (s_imulN (c := 3 * (k + 1)) rfl) ?_
      refine pr_go rfl s_iconst ?_
      refine pr_go rfl (s_isubN (c := 3 * k) (by omega) (by omega)) ?_
      refine pr_go rfl (s_iload_n rfl) ?_
      refine pr_go rfl (s_iaddN (c := (3 * k) + 2) rfl) ?_
      refine pr_go rfl (s_iload rfl) ?_
      refine pr_go rfl (s_iastN n3_tr (by omega) (by decide) n3s_tr) ?_
      refine pr_go rfl (s_iincN (y := nI 3) rfl (nI_add _ _) (lv' := [(3, .int (nI 3)), (4, .int (nI (tc t 2))), (0, .ref A.length), (1, .int (nI i)), (2, .int (nI (k + 1)))]) rfl) ?_
      refine pr_go rfl s_goto ?_
      refine pr_go rfl (s_iload_n rfl) ?_
      refine pr_go rfl s_iconst ?_
      refine pr_go rfl (s_icmp_ge_t (by decide)) ?_
      refine pr_go rfl (s_iincN (y := nI k) rfl (nI_dec1 (by omega)) (lv' := [(2, .int (nI k)), (3, .int (nI 3)), (4, .int (nI (tc t 2))), (0, .ref A.length), (1, .int (nI i))]) rfl) ?_
      refine pr_go rfl s_goto ?_
      exact pr_less (lvLe_of rfl rfl (by repeat' (first | exact (fun _ h => absurd h List.not_mem_nil) | refine List.forall_mem_cons.mpr ⟨rfl, ?_⟩))) ih
theorem l_ord {A : pW} {R : RS} {g0 h : Nat → Int32} {w1 : pW} {n : Nat} (hn : n ≤ 80) : ∀ m i L, i + m = n → L.length = n → good L → pRest 220 (207, [(0, .ref A.length)], [], rW A (N3 R (gT g0 ((List.range' i m).foldl ordS L)) h (nI n))) none w1 → pRest 220 (2, [(0, .ref A.length), (1, .int (nI i))], [], rW A (N3 R (gT g0 (L)) h (nI n))) none w1 := by
  intro m
  induction m with
  | zero =>
    intro i L hm hl hg K
    have hm : i = n := by omega
    subst hm
    refine pr_go rfl (s_iload_n rfl) ?_
    refine pr_go rfl (s_aload_n rfl) ?_
    refine pr_go rfl (s_getf rg_o n3_n) ?_
    refine pr_go rfl (s_icmp_ge_t (Int32.le_refl _)) ?_
    exact pr_less (lvLe_of rfl rfl (by repeat' (first | exact (fun _ h => absurd h List.not_mem_nil) | refine List.forall_mem_cons.mpr ⟨rfl, ?_⟩))) K
  | succ m ih =>
    intro i L hm hl hg K
    rw [show (List.range' i (m + 1)) = i :: List.range' (i + 1) m from List.range'_succ, List.foldl_cons] at K
    have ih := ih (i + 1) (ordS L i) (by omega) (by rw [ordS_len]; exact hl) (good_ordS hg) K
    have ht : L[i]? = some (L.getD i t000) := getD_of (by omega)
    have g1 : in40 (L.getD i t000) := good_getD hg
    have K2 : pRest 220 (201, [(0, .ref A.length), (1, .int (nI i))], [], rW A (N3 R (gT g0 (ordS L i)) h (nI n))) none w1 := by
      refine pr_go rfl (s_iincN (y := nI (i + 1)) rfl (nI_add _ _) (lv' := [(1, .int (nI (i + 1))), (0, .ref A.length)]) rfl) ?_
      refine pr_go rfl s_goto ?_
      exact pr_less (lvLe_of rfl rfl (by repeat' (first | exact (fun _ h => absurd h List.not_mem_nil) | refine List.forall_mem_cons.mpr ⟨rfl, ?_⟩))) ih
    have K3 := l_sink hn (i := i) i (L.set i (rotT (L.getD i t000))) (by rw [List.length_set]; exact hl) (by omega) (good_set hg (rotT_in g1)) K2
    have K4 : pRest 220 (113, [(0, .ref A.length), (1, .int (nI i))], [], rW A (N3 R (gT g0 (L.set i (rotT (L.getD i t000)))) h (nI n))) none w1 := by
      refine pr_go rfl (s_iload_n rfl) ?_
      refine pr_go rfl (s_istore_n (lv' := [(2, .int (nI i)), (0, .ref A.length), (1, .int (nI i))]) rfl) ?_
      exact pr_less (lvLe_of rfl rfl (by repeat' (first | exact (fun _ h => absurd h List.not_mem_nil) | refine List.forall_mem_cons.mpr ⟨rfl, ?_⟩))) K3
    refine pr_go rfl (s_iload_n rfl) ?_
    refine pr_go rfl (s_aload_n rfl) ?_
    refine pr_go rfl (s_getf rg_o n3_n) ?_
    refine pr_go rfl (s_icmp_ge_f (nI_ge (by omega) (by omega))) ?_
    exact pr_less (lvLe_of rfl rfl (by repeat' (first | exact (fun _ h => absurd h List.not_mem_nil) | refine List.forall_mem_cons.mpr ⟨rfl, ?_⟩))) (l_rot hn (by omega) ht g1 (by omega) K4)
theorem l_fin {A : pW} {R : RS} {g0 h : Nat → Int32} {w1 : pW} {n : Nat} (hn : n ≤ 80) {L : List Tri} (hl : L.length = n) (hg : good L) (K : pRest 220 (270, [(0, .ref A.length)], [], rW A (N3 R (gT g0 L) (hT h L) (nI n))) none w1) : ∀ m i, i + m = n → pRest 220 (209, [(0, .ref A.length), (1, .int (nI i))], [], rW A (N3 R (gT g0 L) (hT h (L.take i)) (nI n))) none w1 := by
  intro m
  induction m with
  | zero =>
    intro i hm
    have hm : i = n := by omega
    subst hm
    rw [List.take_of_length_le (by omega)]
    refine pr_go rfl (s_iload_n rfl) ?_
    refine pr_go rfl (s_aload_n rfl) ?_
    refine pr_go rfl (s_getf rg_o n3_n) ?_
    refine pr_go rfl (s_icmp_ge_t (Int32.le_refl _)) ?_
    exact pr_less (lvLe_of rfl rfl (by repeat' (first | exact (fun _ h => absurd h List.not_mem_nil) | refine List.forall_mem_cons.mpr ⟨rfl, ?_⟩))) K
  | succ m ih =>
    intro i hm
    have ih := ih (i + 1) (by omega)
    have ht : L[i]? = some (L.getD i t000) := getD_of (by omega)
    have g1 : in40 (L.getD i t000) := good_getD hg
    have e9 : L.take (i + 1) = L.take i ++ [L.getD i t000] := by
      rw [List.take_succ, ht]
      rfl
    rw [e9, hT_push, List.length_take, show min i L.length = i from by omega] at ih
    revert ht g1 e9 ih
    generalize L.getD i t000 = t
    intro ih ht g1 e9
    have z0 : tc t 0 < 40 := g1.1
    have z1 : tc t 1 < 40 := g1.2.1
    have z2 : tc t 2 < 40 := g1.2.2
    refine pr_go rfl (s_iload_n rfl) ?_
    refine pr_go rfl (s_aload_n rfl) ?_
    refine pr_go rfl (s_getf rg_o n3_n) ?_
    refine pr_go rfl (s_icmp_ge_f (nI_ge (by omega) (by omega))) ?_
    refine pr_go rfl s_iconst ?_
    refine pr_go rfl (s_istore_n (lv' := [(2, .int (nI 0)), (0, .ref A.length), (1, .int (nI i))]) rfl) ?_
    refine pr_go rfl (s_iload_n rfl) ?_
    refine pr_go rfl s_iconst ?_
    refine pr_go rfl (s_icmp_ge_f (by decide)) ?_
    refine pr_go rfl (s_aload_n rfl) ?_
    refine pr_go rfl (s_getf rg_o rfl) ?_
    refine pr_go rfl s_bipush ?_
    refine pr_go rfl (s_aload_n rfl) ?_
    refine pr_go rfl (s_getf rg_o rfl) ?_
    refine pr_go rfl s_iconst ?_
    refine pr_go rfl (s_iload_n rfl) ?_
    refine pr_go rfl (s_imulN (c := 3 * i) rfl) ?_
    refine pr_go rfl (s_iload_n rfl) ?_
    refine pr_go rfl (s_iaddN (c := 3 * i) rfl) ?_
    refine pr_go rfl (s_ialdN (v := nI (tc t 0)) n3_tr (by omega) (by decide) rfl (gT_at (c := 0) ht (by decide))) ?_
    refine pr_go rfl (s_imulN (c := 40 * (tc t 0)) rfl) ?_
    refine pr_go rfl (s_aload_n rfl) ?_
    refine pr_go rfl (s_getf rg_o rfl) ?_
    refine pr_go rfl s_iconst ?_
    refine pr_go rfl (s_iload_n rfl) ?_
    refine pr_go rfl (s_imulN (c := 3 * i) rfl) ?_
    refine pr_go rfl (s_iload_n rfl) ?_
    refine pr_go rfl s_iconst ?_
    refine pr_go rfl (s_iaddN (c := 1) rfl) ?_
    refine pr_go rfl s_iconst ?_
    refine pr_go rfl (s_iremN (c := 1) (by omega) (by omega) (by omega) rfl) ?_
    refine pr_go rfl (s_iaddN (c := (3 * i) + 1) rfl) ?_
    refine pr_go rfl (s_ialdN (v := nI (tc t 1)) n3_tr (by omega) (by decide) rfl (gT_at (c := 1) ht (by decide))) ?_
    refine pr_go rfl (s_iaddN (c := (40 * (tc t 0)) + (tc t 1)) rfl) ?_
    refine pr_go rfl (s_iload_n rfl) ?_
    refine pr_go rfl (s_iastN n3_lf (by omega) (by decide) n3s_lf) ?_
    refine pr_go rfl (s_iincN (y := nI 1) rfl (nI_add _ _) (lv' := [(2, .int (nI 1)), (0, .ref A.length), (1, .int (nI i))]) rfl) ?_
    refine pr_go rfl s_goto ?_
    refine pr_go rfl (s_iload_n rfl) ?_
    refine pr_go rfl s_iconst ?_
    refine pr_go rfl (s_icmp_ge_f (by decide)) ?_
    refine pr_go rfl (s_aload_n rfl) ?_
    refine pr_go rfl (s_getf rg_o rfl) ?_
    refine pr_go rfl s_bipush ?_
    refine pr_go rfl (s_aload_n rfl) ?_
    refine pr_go rfl (s_getf rg_o rfl) ?_
    refine pr_go rfl s_iconst ?_
    refine pr_go rfl (s_iload_n rfl) ?_
    refine pr_go rfl (s_imulN (c := 3 * i) rfl) ?_
    refine pr_go rfl (s_iload_n rfl) ?_
    refine pr_go rfl (s_iaddN (c := (3 * i) + 1) rfl) ?_
    refine pr_go rfl (s_ialdN (v := nI (tc t 1)) n3_tr (by omega) (by decide) rfl (gT_at (c := 1) ht (by decide))) ?_
    refine pr_go rfl (s_imulN (c := 40 * (tc t 1)) rfl) ?_
    refine pr_go rfl (s_aload_n rfl) ?_
    refine pr_go rfl (s_getf rg_o rfl) ?_
    refine pr_go rfl s_iconst ?_
    refine pr_go rfl (s_iload_n rfl) ?_
    refine pr_go rfl (s_imulN (c := 3 * i) rfl) ?_
    refine pr_go rfl (s_iload_n rfl) ?_
    refine pr_go rfl s_iconst ?_
    refine pr_go rfl (s_iaddN (c := 2) rfl) ?_
    refine pr_go rfl s_iconst ?_
    refine pr_go rfl (s_iremN (c := 2) (by omega) (by omega) (by omega) rfl) ?_
    refine pr_go rfl (s_iaddN (c := (3 * i) + 2) rfl) ?_
    refine pr_go rfl (s_ialdN (v := nI (tc t 2)) n3_tr (by omega) (by decide) rfl (gT_at (c := 2) ht (by decide))) ?_
    refine pr_go rfl (s_iaddN (c := (40 * (tc t 1)) + (tc t 2)) rfl) ?_
    refine pr_go rfl (s_iload_n rfl) ?_
    refine pr_go rfl (s_iastN n3_lf (by omega) (by decide) n3s_lf) ?_
    refine pr_go rfl (s_iincN (y := nI 2) rfl (nI_add _ _) (lv' := [(2, .int (nI 2)), (0, .ref A.length), (1, .int (nI i))]) rfl) ?_
    refine pr_go rfl s_goto ?_
    refine pr_go rfl (s_iload_n rfl) ?_
    refine pr_go rfl s_iconst ?_
    refine pr_go rfl (s_icmp_ge_f (by decide)) ?_
    refine pr_go rfl (s_aload_n rfl) ?_
    refine pr_go rfl (s_getf rg_o rfl) ?_
    refine pr_go rfl s_bipush ?_
    refine pr_go rfl (s_aload_n rfl) ?_
    refine pr_go rfl (s_getf rg_o rfl) ?_
    refine pr_go rfl s_iconst ?_
    refine pr_go rfl (s_iload_n rfl) ?_
    refine pr_go rfl (s_imulN (c := 3 * i) rfl) ?_
    refine pr_go rfl (s_iload_n rfl) ?_
    refine pr_go rfl (s_iaddN (c := (3 * i) + 2) rfl) ?_
    refine pr_go rfl (s_ialdN (v := nI (tc t 2)) n3_tr (by omega) (by decide) rfl (gT_at (c := 2) ht (by decide))) ?_
    refine pr_go rfl (s_imulN (c := 40 * (tc t 2)) rfl) ?_
    refine pr_go rfl (s_aload_n rfl) ?_
    refine pr_go rfl (s_getf rg_o rfl) ?_
    refine pr_go rfl s_iconst ?_
    refine pr_go rfl (s_iload_n rfl) ?_
    refine pr_go rfl (s_imulN (c := 3 * i) rfl) ?_
    refine pr_go rfl (s_iload_n rfl) ?_
    refine pr_go rfl s_iconst ?_
    refine pr_go rfl (s_iaddN (c := 3) rfl) ?_
    refine pr_go rfl s_iconst ?_
    refine pr_go rfl (s_iremN (c := 0) (by omega) (by omega) (by omega) rfl) ?_
    refine pr_go rfl (s_iaddN (c := 3 * i) rfl) ?_
    refine pr_go rfl (s_ialdN (v := nI (tc t 0)) n3_tr (by omega) (by decide) rfl (gT_at (c := 0) ht (by decide))) ?_
    refine pr_go rfl (s_iaddN (c := (40 * (tc t 2)) + (tc t 0)) rfl) ?_
    refine pr_go rfl (s_iload_n rfl) ?_
    refine pr_go rfl (s_iastN n3_lf (by omega) (by decide) n3s_lf) ?_
    refine pr_go rfl (s_iincN (y := nI 3) rfl (nI_add _ _) (lv' := [(2, .int (nI 3)), (0, .ref A.length), (1, .int (nI i))]) rfl) ?_
    refine pr_go rfl s_goto ?_
    refine pr_go rfl (s_iload_n rfl) ?_
    refine pr_go rfl s_iconst ?_
    refine pr_go rfl (s_icmp_ge_t (by decide)) ?_
    refine pr_go rfl (s_iincN (y := nI (i + 1)) rfl (nI_add _ _) (lv' := [(1, .int (nI (i + 1))), (2, .int (nI 3)), (0, .ref A.length)]) rfl) ?_
    refine pr_go rfl s_goto ?_
    exact pr_less (lvLe_of rfl rfl (by repeat' (first | exact (fun _ h => absurd h List.not_mem_nil) | refine List.forall_mem_cons.mpr ⟨rfl, ?_⟩))) ih
theorem ordL_len {L : List Tri} : (ordL L).length = L.length := by
  unfold ordL
  have : ∀ (l : List Nat) (M : List Tri), (l.foldl ordS M).length = M.length := by
    intro l
    induction l with
    | nil => intro M; rfl
    | cons a l ih => intro M; exact (ih _).trans ordS_len
  exact this _ _
theorem good_ordL {L : List Tri} (h : good L) : good (ordL L) := by
  unfold ordL
  have : ∀ (l : List Nat) (M : List Tri), good M → good (l.foldl ordS M) := by
    intro l
    induction l with
    | nil => intro M h; exact h
    | cons a l ih => intro M h; exact ih _ (good_ordS h)
  exact this _ _ h
/-- the rows behind the ordering -/
def RO (R : RS) (g0 h0 : Nat → Int32) (L : List Tri) : RS := N3 R (gT g0 (ordL L)) (hT (hT h0 L) (ordL L)) (nI L.length)
theorem r_order {A : pW} {R : RS} {g0 h0 : Nat → Int32} {L : List Tri} (hg : good L) : pRun 220 [.ref A.length] (rW A (RT R g0 h0 L)) none (rW A (RO R g0 h0 L)) := by
  have K3 : pRest 220 (270, [(0, .ref A.length)], [], rW A (N3 R (gT g0 (ordL L)) (hT (hT h0 L) (ordL L)) (nI L.length))) none (rW A (RO R g0 h0 L)) := by
    exact pr_ret rfl rfl
  have K2 := l_fin (h := hT h0 L) hg.2 (L := ordL L) ordL_len (good_ordL hg) K3 L.length 0 (Nat.zero_add _)
  have K2 : pRest 220 (209, [(0, .ref A.length), (1, .int (nI 0))], [], rW A (N3 R (gT g0 (ordL L)) (hT h0 L) (nI L.length))) none (rW A (RO R g0 h0 L)) := K2
  have K1 : pRest 220 (207, [(0, .ref A.length)], [], rW A (N3 R (gT g0 (ordL L)) (hT h0 L) (nI L.length))) none (rW A (RO R g0 h0 L)) := by
    refine pr_go rfl s_iconst ?_
    refine pr_go rfl (s_istore_n (lv' := [(1, .int (nI 0)), (0, .ref A.length)]) rfl) ?_
    exact pr_less (lvLe_of rfl rfl (by repeat' (first | exact (fun _ h => absurd h List.not_mem_nil) | refine List.forall_mem_cons.mpr ⟨rfl, ?_⟩))) K2
  have K0 := l_ord (h := hT h0 L) hg.2 L.length 0 L (Nat.zero_add _) rfl hg K1
  refine pr_run rfl ?_
  unfold RT
  refine pr_go rfl s_iconst ?_
  refine pr_go rfl (s_istore_n (lv' := [(1, .int (nI 0)), (0, .ref A.length)]) rfl) ?_
  exact pr_less (lvLe_of rfl rfl (by repeat' (first | exact (fun _ h => absurd h List.not_mem_nil) | refine List.forall_mem_cons.mpr ⟨rfl, ?_⟩))) K0
/-- the mesh that the reference lays from its row -/
def meshF (f : Nat → Int32) : Option (List Tri) := layF f
theorem r_layMesh {A : pW} {R : RS} {L : List Tri} (hl : layF R.a = some L) (hg : good L) : pRun 219 [.ref A.length] (rW A R) none (rW A (RO R R.tr (flF (nI 4294967295) R.lf 1600) L)) := r_layMesh0 hl hg (r_order hg)
