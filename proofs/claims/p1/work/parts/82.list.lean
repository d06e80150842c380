/-! THE CLASS'S MESH BY ITS BOUNDS: its rows made anew. Rows laid by program (wip/tools/lay2.py, mk8a.py, mk83n.py). -/
theorem m_listE {xs ys hx hy rd : Nat → Int32} {th : Int64} {hn g : Int32} {Q : pW} {w : pW} (h : cK xs ys hx hy th hn g rd Q w) {a b : Nat} (ha : a < 40) (hb : b < 40) : qC 32 [.ref 1, .int (nI a), .int (nI b)] w (cN xs ys hx hy th hn g rd Q) := by
  obtain ⟨hs1, fx1, ap1, ow1, co1, en1, ne1, t1, e1, li1, wa1, qu1, n1, hap1, hco1, hqu1, ht1, he1, hn1, rfl⟩ := h
  refine pc_run rfl ?_
  refine pe_go rfl (s_aload_n rfl) ?_
  refine pe_go rfl (s_getf rfl rfl) ?_
  refine pe_go rfl (s_iload_n rfl) ?_
  refine pe_go rfl s_dup2i ?_
  refine pe_go rfl (s_laldN (v := ne1 (a)) rfl (by omega) (by decide) rfl) ?_
  refine pe_go rfl s_lconst1 ?_
  refine pe_go rfl (s_iload_n rfl) ?_
  refine pe_go rfl s_lshl ?_
  refine pe_go rfl s_lor ?_
  refine pe_go rfl (s_lastN rfl (by omega) (by decide) (w' := cM xs ys hs1 fx1 hx hy th hn g ap1 ow1 co1 en1 (vp_updL ne1 (a) ((ne1 (a)) ||| (((1 : Int64)) <<< ((nI b).toInt64 &&& 63)))) rd (nI t1) (nI e1) li1 wa1 qu1 (nI n1) Q) rfl) ?_
  refine pe_go rfl (s_aload_n rfl) ?_
  refine pe_go rfl (s_getf rfl rfl) ?_
  refine pe_go rfl (s_iload_n rfl) ?_
  refine pe_go rfl s_dup2i ?_
  refine pe_go rfl (s_laldN (v := (vp_updL ne1 (a) ((ne1 (a)) ||| (((1 : Int64)) <<< ((nI b).toInt64 &&& 63)))) (b)) rfl (by omega) (by decide) rfl) ?_
  refine pe_go rfl s_lconst1 ?_
  refine pe_go rfl (s_iload_n rfl) ?_
  refine pe_go rfl s_lshl ?_
  refine pe_go rfl s_lor ?_
  refine pe_go rfl (s_lastN rfl (by omega) (by decide) (w' := cM xs ys hs1 fx1 hx hy th hn g ap1 ow1 co1 en1 (vp_updL (vp_updL ne1 (a) ((ne1 (a)) ||| (((1 : Int64)) <<< ((nI b).toInt64 &&& 63)))) (b) (((vp_updL ne1 (a) ((ne1 (a)) ||| (((1 : Int64)) <<< ((nI b).toInt64 &&& 63)))) (b)) ||| (((1 : Int64)) <<< ((nI a).toInt64 &&& 63)))) rd (nI t1) (nI e1) li1 wa1 qu1 (nI n1) Q) rfl) ?_
  refine pe_go rfl (s_aload_n rfl) ?_
  refine pe_go rfl (s_getf rfl rfl) ?_
  refine pe_go rfl s_bipush ?_
  by_cases c2 : (113) ≤ (e1)
  · skip
    refine pe_go rfl (s_icmp_ge_t ((nI_leI (by omega) (by omega)).mpr (by omega))) ?_
    exact pe_ret rfl rfl ⟨rfl, ⟨_, _, _, _, _, _, _, _, _, _, _, _, _, hap1, hco1, hqu1, (by omega), (by omega), (by omega), rfl⟩⟩
  · skip
    refine pe_go rfl (s_icmp_ge_f (fun e => absurd ((nI_leI (by omega) (by omega)).mp e) (by omega))) ?_
    refine pe_go rfl (s_aload_n rfl) ?_
    refine pe_go rfl (s_getf rfl rfl) ?_
    refine pe_go rfl s_iconst ?_
    refine pe_go rfl (s_aload_n rfl) ?_
    refine pe_go rfl (s_getf rfl rfl) ?_
    refine pe_go rfl (s_imulN (c := 2 * e1) rfl) ?_
    refine pe_go rfl (s_iload_n rfl) ?_
    refine pe_go rfl (s_iastN rfl (by omega) (by decide) (w' := cM xs ys hs1 fx1 hx hy th hn g ap1 ow1 co1 (upd en1 (2 * e1) (nI a)) (vp_updL (vp_updL ne1 (a) ((ne1 (a)) ||| (((1 : Int64)) <<< ((nI b).toInt64 &&& 63)))) (b) (((vp_updL ne1 (a) ((ne1 (a)) ||| (((1 : Int64)) <<< ((nI b).toInt64 &&& 63)))) (b)) ||| (((1 : Int64)) <<< ((nI a).toInt64 &&& 63)))) rd (nI t1) (nI e1) li1 wa1 qu1 (nI n1) Q) rfl) ?_
    refine pe_go rfl (s_aload_n rfl) ?_
    refine pe_go rfl (s_getf rfl rfl) ?_
    refine pe_go rfl s_iconst ?_
    refine pe_go rfl (s_aload_n rfl) ?_
    refine pe_go rfl (s_getf rfl rfl) ?_
    refine pe_go rfl (s_imulN (c := 2 * e1) rfl) ?_
    refine pe_go rfl s_iconst ?_
    refine pe_go rfl (s_iaddN (c := (2 * e1) + 1) rfl) ?_
    refine pe_go rfl (s_iload_n rfl) ?_
    refine pe_go rfl (s_iastN rfl (by omega) (by decide) (w' := cM xs ys hs1 fx1 hx hy th hn g ap1 ow1 co1 (upd (upd en1 (2 * e1) (nI a)) ((2 * e1) + 1) (nI b)) (vp_updL (vp_updL ne1 (a) ((ne1 (a)) ||| (((1 : Int64)) <<< ((nI b).toInt64 &&& 63)))) (b) (((vp_updL ne1 (a) ((ne1 (a)) ||| (((1 : Int64)) <<< ((nI b).toInt64 &&& 63)))) (b)) ||| (((1 : Int64)) <<< ((nI a).toInt64 &&& 63)))) rd (nI t1) (nI e1) li1 wa1 qu1 (nI n1) Q) rfl) ?_
    refine pe_go rfl (s_aload_n rfl) ?_
    refine pe_go rfl (s_dup rfl) ?_
    refine pe_go rfl (s_getf rfl rfl) ?_
    refine pe_go rfl s_iconst ?_
    refine pe_go rfl (s_iaddN (c := e1 + 1) rfl) ?_
    refine pe_go rfl (s_putfN rfl (Nat.le_of_ble_eq_true rfl) rfl (w' := cM xs ys hs1 fx1 hx hy th hn g ap1 ow1 co1 (upd (upd en1 (2 * e1) (nI a)) ((2 * e1) + 1) (nI b)) (vp_updL (vp_updL ne1 (a) ((ne1 (a)) ||| (((1 : Int64)) <<< ((nI b).toInt64 &&& 63)))) (b) (((vp_updL ne1 (a) ((ne1 (a)) ||| (((1 : Int64)) <<< ((nI b).toInt64 &&& 63)))) (b)) ||| (((1 : Int64)) <<< ((nI a).toInt64 &&& 63)))) rd (nI t1) (nI (e1 + 1)) li1 wa1 qu1 (nI n1) Q) rfl) ?_
    exact pe_ret rfl rfl ⟨rfl, ⟨_, _, _, _, _, _, _, _, _, _, _, _, _, hap1, hco1, hqu1, (by omega), (by omega), (by omega), rfl⟩⟩
theorem m_listT {xs ys hx hy rd : Nat → Int32} {th : Int64} {hn g : Int32} {Q : pW} {w : pW} (h : cK xs ys hx hy th hn g rd Q w) {a b c : Nat} (ha : a < 40) (hb : b < 40) (hc : c < 40) : qC 33 [.ref 1, .int (nI a), .int (nI b), .int (nI c)] w (cN xs ys hx hy th hn g rd Q) := by
  obtain ⟨hs1, fx1, ap1, ow1, co1, en1, ne1, t1, e1, li1, wa1, qu1, n1, hap1, hco1, hqu1, ht1, he1, hn1, rfl⟩ := h
  refine pc_run rfl ?_
  refine pe_go rfl (s_aload_n rfl) ?_
  refine pe_go rfl (s_getf rfl rfl) ?_
  refine pe_go rfl s_bipush ?_
  by_cases c2 : (74) ≤ (t1)
  · skip
    refine pe_go rfl (s_icmp_ge_t ((nI_leI (by omega) (by omega)).mpr (by omega))) ?_
    exact pe_ret rfl rfl ⟨rfl, ⟨_, _, _, _, _, _, _, _, _, _, _, _, _, hap1, hco1, hqu1, (by omega), (by omega), (by omega), rfl⟩⟩
  · skip
    refine pe_go rfl (s_icmp_ge_f (fun e => absurd ((nI_leI (by omega) (by omega)).mp e) (by omega))) ?_
    refine pe_go rfl (s_aload_n rfl) ?_
    refine pe_go rfl (s_getf rfl rfl) ?_
    refine pe_go rfl s_iconst ?_
    refine pe_go rfl (s_aload_n rfl) ?_
    refine pe_go rfl (s_getf rfl rfl) ?_
    refine pe_go rfl (s_imulN (c := 3 * t1) rfl) ?_
    refine pe_go rfl (s_iload_n rfl) ?_
    refine pe_go rfl (s_iastN rfl (by omega) (by decide) (w' := cM xs ys hs1 fx1 hx hy th hn g ap1 ow1 (upd co1 (3 * t1) (nI a)) en1 ne1 rd (nI t1) (nI e1) li1 wa1 qu1 (nI n1) Q) rfl) ?_
    refine pe_go rfl (s_aload_n rfl) ?_
    refine pe_go rfl (s_getf rfl rfl) ?_
    refine pe_go rfl s_iconst ?_
    refine pe_go rfl (s_aload_n rfl) ?_
    refine pe_go rfl (s_getf rfl rfl) ?_
    refine pe_go rfl (s_imulN (c := 3 * t1) rfl) ?_
    refine pe_go rfl s_iconst ?_
    refine pe_go rfl (s_iaddN (c := (3 * t1) + 1) rfl) ?_
    refine pe_go rfl (s_iload_n rfl) ?_
    refine pe_go rfl (s_iastN rfl (by omega) (by decide) (w' := cM xs ys hs1 fx1 hx hy th hn g ap1 ow1 (upd (upd co1 (3 * t1) (nI a)) ((3 * t1) + 1) (nI b)) en1 ne1 rd (nI t1) (nI e1) li1 wa1 qu1 (nI n1) Q) rfl) ?_
    refine pe_go rfl (s_aload_n rfl) ?_
    refine pe_go rfl (s_getf rfl rfl) ?_
    refine pe_go rfl s_iconst ?_
    refine pe_go rfl (s_aload_n rfl) ?_
    refine pe_go rfl (s_getf rfl rfl) ?_
    refine pe_go rfl (s_imulN (c := 3 * t1) rfl) ?_
    refine pe_go rfl s_iconst ?_
    refine pe_go rfl (s_iaddN (c := (3 * t1) + 2) rfl) ?_
    refine pe_go rfl (s_iload_n rfl) ?_
    refine pe_go rfl (s_iastN rfl (by omega) (by decide) (w' := cM xs ys hs1 fx1 hx hy th hn g ap1 ow1 (upd (upd (upd co1 (3 * t1) (nI a)) ((3 * t1) + 1) (nI b)) ((3 * t1) + 2) (nI c)) en1 ne1 rd (nI t1) (nI e1) li1 wa1 qu1 (nI n1) Q) rfl) ?_
    refine pe_go rfl (s_aload_n rfl) ?_
    refine pe_go rfl (s_getf rfl rfl) ?_
    refine pe_go rfl (s_iload_n rfl) ?_
    refine pe_go rfl s_bipush ?_
    refine pe_go rfl (s_imulN (c := a * 40) rfl) ?_
    refine pe_go rfl (s_iload_n rfl) ?_
    refine pe_go rfl (s_iaddN (c := (a * 40) + b) rfl) ?_
    refine pe_go rfl (s_aload_n rfl) ?_
    refine pe_go rfl (s_getf rfl rfl) ?_
    refine pe_go rfl (s_iastN rfl (by omega) (by decide) (w' := cM xs ys hs1 fx1 hx hy th hn g ap1 (upd ow1 ((a * 40) + b) (nI t1)) (upd (upd (upd co1 (3 * t1) (nI a)) ((3 * t1) + 1) (nI b)) ((3 * t1) + 2) (nI c)) en1 ne1 rd (nI t1) (nI e1) li1 wa1 qu1 (nI n1) Q) rfl) ?_
    refine pe_go rfl (s_aload_n rfl) ?_
    refine pe_go rfl (s_getf rfl rfl) ?_
    refine pe_go rfl (s_iload_n rfl) ?_
    refine pe_go rfl s_bipush ?_
    refine pe_go rfl (s_imulN (c := b * 40) rfl) ?_
    refine pe_go rfl (s_iload_n rfl) ?_
    refine pe_go rfl (s_iaddN (c := (b * 40) + c) rfl) ?_
    refine pe_go rfl (s_aload_n rfl) ?_
    refine pe_go rfl (s_getf rfl rfl) ?_
    refine pe_go rfl (s_iastN rfl (by omega) (by decide) (w' := cM xs ys hs1 fx1 hx hy th hn g ap1 (upd (upd ow1 ((a * 40) + b) (nI t1)) ((b * 40) + c) (nI t1)) (upd (upd (upd co1 (3 * t1) (nI a)) ((3 * t1) + 1) (nI b)) ((3 * t1) + 2) (nI c)) en1 ne1 rd (nI t1) (nI e1) li1 wa1 qu1 (nI n1) Q) rfl) ?_
    refine pe_go rfl (s_aload_n rfl) ?_
    refine pe_go rfl (s_getf rfl rfl) ?_
    refine pe_go rfl (s_iload_n rfl) ?_
    refine pe_go rfl s_bipush ?_
    refine pe_go rfl (s_imulN (c := c * 40) rfl) ?_
    refine pe_go rfl (s_iload_n rfl) ?_
    refine pe_go rfl (s_iaddN (c := (c * 40) + a) rfl) ?_
    refine pe_go rfl (s_aload_n rfl) ?_
    refine pe_go rfl (s_getf rfl rfl) ?_
    refine pe_go rfl (s_iastN rfl (by omega) (by decide) (w' := cM xs ys hs1 fx1 hx hy th hn g ap1 (upd (upd (upd ow1 ((a * 40) + b) (nI t1)) ((b * 40) + c) (nI t1)) ((c * 40) + a) (nI t1)) (upd (upd (upd co1 (3 * t1) (nI a)) ((3 * t1) + 1) (nI b)) ((3 * t1) + 2) (nI c)) en1 ne1 rd (nI t1) (nI e1) li1 wa1 qu1 (nI n1) Q) rfl) ?_
    refine pe_go rfl (s_aload_n rfl) ?_
    refine pe_go rfl (s_dup rfl) ?_
    refine pe_go rfl (s_getf rfl rfl) ?_
    refine pe_go rfl s_iconst ?_
    refine pe_go rfl (s_iaddN (c := t1 + 1) rfl) ?_
    refine pe_go rfl (s_putfN rfl (Nat.le_of_ble_eq_true rfl) rfl (w' := cM xs ys hs1 fx1 hx hy th hn g ap1 (upd (upd (upd ow1 ((a * 40) + b) (nI t1)) ((b * 40) + c) (nI t1)) ((c * 40) + a) (nI t1)) (upd (upd (upd co1 (3 * t1) (nI a)) ((3 * t1) + 1) (nI b)) ((3 * t1) + 2) (nI c)) en1 ne1 rd (nI (t1 + 1)) (nI e1) li1 wa1 qu1 (nI n1) Q) rfl) ?_
    exact pe_ret rfl rfl ⟨rfl, ⟨_, _, _, _, _, _, _, _, _, _, _, _, _, hap1, (okCo_k (okCo_k (okCo_k hco1 (by omega)) (by omega)) (by omega)), hqu1, (by omega), (by omega), (by omega), rfl⟩⟩
theorem l_listB {xs ys hx hy rd : Nat → Int32} {th : Int64} {hn g : Int32} {Q : pW} {a : Nat} (ha : a < 40) (K : ∀ {w : pW}, cK xs ys hx hy th hn g rd Q w → ∀ {lv : pLv}, lvLe [(1, .int (nI (a + 1))), (0, .ref 1)] lv → qE 31 (20, lv, [], w) (cN xs ys hx hy th hn g rd Q)) : ∀ (m b : Nat), b + m = 40 → ∀ {w : pW}, cK xs ys hx hy th hn g rd Q w → ∀ {lv : pLv}, lvLe [(2, .int (nI b)), (1, .int (nI a)), (0, .ref 1)] lv → qE 31 (30, lv, [], w) (cN xs ys hx hy th hn g rd Q) := by
  intro m
  induction m with
  | zero =>
    intro b hb w h lv hl
    obtain rfl : b = 40 := by omega
    refine pe_less hl ?_
    obtain ⟨hs1, fx1, ap1, ow1, co1, en1, ne1, t1, e1, li1, wa1, qu1, n1, hap1, hco1, hqu1, ht1, he1, hn1, rfl⟩ := h
    refine pe_go rfl (s_iload_n rfl) ?_
    refine pe_go rfl s_bipush ?_
    refine pe_go rfl (s_icmp_ge_t (Int32.le_refl _)) ?_
    refine pe_go rfl (s_iincN (y := nI (a + 1)) rfl (nI_add _ _) (lv' := [(1, .int (nI (a + 1))), (2, .int (nI 40)), (0, .ref 1)]) rfl) ?_
    refine pe_go rfl s_goto ?_
    exact K ⟨_, _, _, _, _, _, _, _, _, _, _, _, _, hap1, hco1, hqu1, (by omega), (by omega), (by omega), rfl⟩ (lvLe_of rfl rfl (by repeat' (first | exact (fun _ h => absurd h List.not_mem_nil) | refine List.forall_mem_cons.mpr ⟨rfl, ?_⟩)))
  | succ m ih =>
    intro b hb w h lv hl
    refine pe_less hl ?_
    obtain ⟨hs1, fx1, ap1, ow1, co1, en1, ne1, t1, e1, li1, wa1, qu1, n1, hap1, hco1, hqu1, ht1, he1, hn1, rfl⟩ := h
    refine pe_go rfl (s_iload_n rfl) ?_
    refine pe_go rfl s_bipush ?_
    refine pe_go rfl (s_icmp_ge_f (fun e => absurd ((nI_leI (by omega) (by omega)).mp e) (by omega))) ?_
    refine pe_go rfl (s_aload_n rfl) ?_
    refine pe_go rfl (s_getf rfl rfl) ?_
    refine pe_go rfl (s_iload_n rfl) ?_
    refine pe_call rfl (s_invV rfl rfl rfl rfl) (c_has (by omega)) ?_
    cases b2 : bt th a
    · skip
      refine pe_go rfl (s_if_eq_t (by decide)) ?_
      refine pe_go rfl (s_iincN (y := nI (a + 1)) rfl (nI_add _ _) (lv' := [(1, .int (nI (a + 1))), (2, .int (nI b)), (0, .ref 1)]) rfl) ?_
      refine pe_go rfl s_goto ?_
      exact K ⟨_, _, _, _, _, _, _, _, _, _, _, _, _, hap1, hco1, hqu1, (by omega), (by omega), (by omega), rfl⟩ (lvLe_of rfl rfl (by repeat' (first | exact (fun _ h => absurd h List.not_mem_nil) | refine List.forall_mem_cons.mpr ⟨rfl, ?_⟩)))
    · skip
      refine pe_go rfl (s_if_eq_f (by decide)) ?_
      refine pe_go rfl (s_aload_n rfl) ?_
      refine pe_go rfl (s_getf rfl rfl) ?_
      refine pe_go rfl (s_iload_n rfl) ?_
      refine pe_go rfl s_bipush ?_
      refine pe_go rfl (s_imulN (c := a * 40) rfl) ?_
      refine pe_go rfl (s_iload_n rfl) ?_
      refine pe_go rfl (s_iaddN (c := (a * 40) + b) rfl) ?_
      rcases hap1 ((a * 40) + b) (by omega) with x3 | ⟨k3, y3, x3⟩
      · skip
        refine pe_go rfl (s_ialdN (v := nI 4294967295) rfl (by omega) (by decide) rfl x3) ?_
        refine pe_go rfl (s_istore_n (lv' := [(3, .int (nI 4294967295)), (2, .int (nI b)), (1, .int (nI a)), (0, .ref 1)]) rfl) ?_
        refine pe_go rfl (s_iload_n rfl) ?_
        refine pe_go rfl s_iconst ?_
        refine pe_go rfl (s_icmp_ne_f (fun e => e rfl)) ?_
        refine pe_go rfl (s_aload_n rfl) ?_
        refine pe_go rfl (s_getf rfl rfl) ?_
        refine pe_go rfl (s_iload_n rfl) ?_
        refine pe_go rfl s_bipush ?_
        refine pe_go rfl (s_imulN (c := b * 40) rfl) ?_
        refine pe_go rfl (s_iload_n rfl) ?_
        refine pe_go rfl (s_iaddN (c := (b * 40) + a) rfl) ?_
        rcases hap1 ((b * 40) + a) (by omega) with x4 | ⟨k4, y4, x4⟩
        · skip
          refine pe_go rfl (s_ialdN (v := nI 4294967295) rfl (by omega) (by decide) rfl x4) ?_
          refine pe_go rfl s_iconst ?_
          refine pe_go rfl (s_icmp_eq_t rfl) ?_
          refine pe_go rfl (s_iload_n rfl) ?_
          refine pe_go rfl (s_iload_n rfl) ?_
          refine pe_go rfl (s_icmp_le_t (nm1_le (by omega))) ?_
          refine pe_go rfl (s_iincN (y := nI (b + 1)) rfl (nI_add _ _) (lv' := [(2, .int (nI (b + 1))), (3, .int (nI 4294967295)), (1, .int (nI a)), (0, .ref 1)]) rfl) ?_
          refine pe_go rfl s_goto ?_
          exact ih (b + 1) (by omega) ⟨_, _, _, _, _, _, _, _, _, _, _, _, _, hap1, hco1, hqu1, (by omega), (by omega), (by omega), rfl⟩ (lvLe_of rfl rfl (by repeat' (first | exact (fun _ h => absurd h List.not_mem_nil) | refine List.forall_mem_cons.mpr ⟨rfl, ?_⟩)))
        · skip
          refine pe_go rfl (s_ialdN (v := nI k4) rfl (by omega) (by decide) rfl x4) ?_
          refine pe_go rfl s_iconst ?_
          refine pe_go rfl (s_icmp_eq_f (nI_none (k := k4) (by omega))) ?_
          refine pe_go rfl (s_aload_n rfl) ?_
          refine pe_go rfl (s_iload_n rfl) ?_
          refine pe_go rfl (s_iload_n rfl) ?_
          refine pe_callE rfl (s_invV rfl rfl rfl rfl) (m_listE ⟨_, _, _, _, _, _, _, _, _, _, _, _, _, hap1, hco1, hqu1, (by omega), (by omega), (by omega), rfl⟩ (by omega) (by omega)) ?_
          rintro _ _ ⟨rfl, hs5, fx5, ap5, ow5, co5, en5, ne5, t5, e5, li5, wa5, qu5, n5, hap5, hco5, hqu5, ht5, he5, hn5, rfl⟩
          refine pe_go rfl (s_iload_n rfl) ?_
          refine pe_go rfl (s_iload_n rfl) ?_
          refine pe_go rfl (s_icmp_le_t (nm1_le (by omega))) ?_
          refine pe_go rfl (s_iincN (y := nI (b + 1)) rfl (nI_add _ _) (lv' := [(2, .int (nI (b + 1))), (3, .int (nI 4294967295)), (1, .int (nI a)), (0, .ref 1)]) rfl) ?_
          refine pe_go rfl s_goto ?_
          exact ih (b + 1) (by omega) ⟨_, _, _, _, _, _, _, _, _, _, _, _, _, hap5, hco5, hqu5, (by omega), (by omega), (by omega), rfl⟩ (lvLe_of rfl rfl (by repeat' (first | exact (fun _ h => absurd h List.not_mem_nil) | refine List.forall_mem_cons.mpr ⟨rfl, ?_⟩)))
      · skip
        refine pe_go rfl (s_ialdN (v := nI k3) rfl (by omega) (by decide) rfl x3) ?_
        refine pe_go rfl (s_istore_n (lv' := [(3, .int (nI k3)), (2, .int (nI b)), (1, .int (nI a)), (0, .ref 1)]) rfl) ?_
        refine pe_go rfl (s_iload_n rfl) ?_
        refine pe_go rfl s_iconst ?_
        refine pe_go rfl (s_icmp_ne_t (nI_none (k := k3) (by omega))) ?_
        refine pe_go rfl (s_aload_n rfl) ?_
        refine pe_go rfl (s_iload_n rfl) ?_
        refine pe_go rfl (s_iload_n rfl) ?_
        refine pe_callE rfl (s_invV rfl rfl rfl rfl) (m_listE ⟨_, _, _, _, _, _, _, _, _, _, _, _, _, hap1, hco1, hqu1, (by omega), (by omega), (by omega), rfl⟩ (by omega) (by omega)) ?_
        rintro _ _ ⟨rfl, hs6, fx6, ap6, ow6, co6, en6, ne6, t6, e6, li6, wa6, qu6, n6, hap6, hco6, hqu6, ht6, he6, hn6, rfl⟩
        refine pe_go rfl (s_iload_n rfl) ?_
        refine pe_go rfl (s_iload_n rfl) ?_
        by_cases c7 : (k3) ≤ (a)
        · skip
          refine pe_go rfl (s_icmp_le_t ((nI_leI (by omega) (by omega)).mpr (by omega))) ?_
          refine pe_go rfl (s_iincN (y := nI (b + 1)) rfl (nI_add _ _) (lv' := [(2, .int (nI (b + 1))), (3, .int (nI k3)), (1, .int (nI a)), (0, .ref 1)]) rfl) ?_
          refine pe_go rfl s_goto ?_
          exact ih (b + 1) (by omega) ⟨_, _, _, _, _, _, _, _, _, _, _, _, _, hap6, hco6, hqu6, (by omega), (by omega), (by omega), rfl⟩ (lvLe_of rfl rfl (by repeat' (first | exact (fun _ h => absurd h List.not_mem_nil) | refine List.forall_mem_cons.mpr ⟨rfl, ?_⟩)))
        · skip
          refine pe_go rfl (s_icmp_le_f (fun e => absurd ((nI_leI (by omega) (by omega)).mp e) (by omega))) ?_
          refine pe_go rfl (s_aload_n rfl) ?_
          refine pe_go rfl (s_iload_n rfl) ?_
          refine pe_go rfl (s_iload_n rfl) ?_
          refine pe_go rfl (s_iload_n rfl) ?_
          refine pe_callE rfl (s_invV rfl rfl rfl rfl) (m_listT ⟨_, _, _, _, _, _, _, _, _, _, _, _, _, hap6, hco6, hqu6, (by omega), (by omega), (by omega), rfl⟩ (by omega) (by omega) (by omega)) ?_
          rintro _ _ ⟨rfl, hs8, fx8, ap8, ow8, co8, en8, ne8, t8, e8, li8, wa8, qu8, n8, hap8, hco8, hqu8, ht8, he8, hn8, rfl⟩
          refine pe_go rfl (s_iincN (y := nI (b + 1)) rfl (nI_add _ _) (lv' := [(2, .int (nI (b + 1))), (3, .int (nI k3)), (1, .int (nI a)), (0, .ref 1)]) rfl) ?_
          refine pe_go rfl s_goto ?_
          exact ih (b + 1) (by omega) ⟨_, _, _, _, _, _, _, _, _, _, _, _, _, hap8, hco8, hqu8, (by omega), (by omega), (by omega), rfl⟩ (lvLe_of rfl rfl (by repeat' (first | exact (fun _ h => absurd h List.not_mem_nil) | refine List.forall_mem_cons.mpr ⟨rfl, ?_⟩)))
theorem l_listA {xs ys hx hy rd : Nat → Int32} {th : Int64} {hn g : Int32} {Q : pW} : ∀ (m a : Nat), a + m = 40 → ∀ {w : pW}, cK xs ys hx hy th hn g rd Q w → ∀ {lv : pLv}, lvLe [(1, .int (nI a)), (0, .ref 1)] lv → qE 31 (20, lv, [], w) (cN xs ys hx hy th hn g rd Q) := by
  intro m
  induction m with
  | zero =>
    intro a hb w h lv hl
    obtain rfl : a = 40 := by omega
    refine pe_less hl ?_
    obtain ⟨hs1, fx1, ap1, ow1, co1, en1, ne1, t1, e1, li1, wa1, qu1, n1, hap1, hco1, hqu1, ht1, he1, hn1, rfl⟩ := h
    refine pe_go rfl (s_iload_n rfl) ?_
    refine pe_go rfl s_bipush ?_
    refine pe_go rfl (s_icmp_ge_t (Int32.le_refl _)) ?_
    exact pe_ret rfl rfl ⟨rfl, ⟨_, _, _, _, _, _, _, _, _, _, _, _, _, hap1, hco1, hqu1, (by omega), (by omega), (by omega), rfl⟩⟩
  | succ m ih =>
    intro a ha w h lv hl
    refine pe_less hl ?_
    obtain ⟨hs1, fx1, ap1, ow1, co1, en1, ne1, t1, e1, li1, wa1, qu1, n1, hap1, hco1, hqu1, ht1, he1, hn1, rfl⟩ := h
    refine pe_go rfl (s_iload_n rfl) ?_
    refine pe_go rfl s_bipush ?_
    refine pe_go rfl (s_icmp_ge_f (fun e => absurd ((nI_leI (by omega) (by omega)).mp e) (by omega))) ?_
    refine pe_go rfl (s_iload_n rfl) ?_
    refine pe_go rfl s_iconst ?_
    refine pe_go rfl (s_iaddN (c := a + 1) rfl) ?_
    refine pe_go rfl (s_istore_n (lv' := [(2, .int (nI (a + 1))), (1, .int (nI a)), (0, .ref 1)]) rfl) ?_
    exact l_listB (a := a) (by omega) (fun {_} h {_} hl => ih (a + 1) (by omega) h hl) (39 - a) (a + 1) (by omega) ⟨_, _, _, _, _, _, _, _, _, _, _, _, _, hap1, hco1, hqu1, (by omega), (by omega), (by omega), rfl⟩ (lvLe_of rfl rfl (by repeat' (first | exact (fun _ h => absurd h List.not_mem_nil) | refine List.forall_mem_cons.mpr ⟨rfl, ?_⟩)))
theorem m_list {xs ys hx hy rd : Nat → Int32} {th : Int64} {hn g : Int32} {Q : pW} {w : pW} (h : cK xs ys hx hy th hn g rd Q w)  : qC 31 [.ref 1] w (cN xs ys hx hy th hn g rd Q) := by
  obtain ⟨hs1, fx1, ap1, ow1, co1, en1, ne1, t1, e1, li1, wa1, qu1, n1, hap1, hco1, hqu1, ht1, he1, hn1, rfl⟩ := h
  refine pc_run rfl ?_
  refine pe_go rfl (s_aload_n rfl) ?_
  refine pe_go rfl s_iconst ?_
  refine pe_go rfl (s_putfN rfl (Nat.le_of_ble_eq_true rfl) rfl (w' := cM xs ys hs1 fx1 hx hy th hn g ap1 ow1 co1 en1 ne1 rd (nI 0) (nI e1) li1 wa1 qu1 (nI n1) Q) rfl) ?_
  refine pe_go rfl (s_aload_n rfl) ?_
  refine pe_go rfl s_iconst ?_
  refine pe_go rfl (s_putfN rfl (Nat.le_of_ble_eq_true rfl) rfl (w' := cM xs ys hs1 fx1 hx hy th hn g ap1 ow1 co1 en1 ne1 rd (nI 0) (nI 0) li1 wa1 qu1 (nI n1) Q) rfl) ?_
  refine pe_go rfl (s_aload_n rfl) ?_
  refine pe_go rfl (s_getf rfl rfl) ?_
  refine pe_go rfl s_lconst0 ?_
  refine pe_call rfl (s_invS rfl rfl rfl) ((run_fillL rfl (by decide) : pRun 355 [.ref 13, .long 0] (cM xs ys hs1 fx1 hx hy th hn g ap1 ow1 co1 en1 ne1 rd (nI 0) (nI 0) li1 wa1 qu1 (nI n1) Q) none (cM xs ys hs1 fx1 hx hy th hn g ap1 ow1 co1 en1 (flL 0 ne1 40) rd (nI 0) (nI 0) li1 wa1 qu1 (nI n1) Q))) ?_
  refine pe_go rfl s_iconst ?_
  refine pe_go rfl (s_istore_n (lv' := [(1, .int (nI 0)), (0, .ref 1)]) rfl) ?_
  exact l_listA 40 0 rfl ⟨_, _, _, _, _, _, _, _, _, _, _, _, _, hap1, hco1, hqu1, (by omega), (by omega), (by omega), rfl⟩ (lvLe_of rfl rfl (by repeat' (first | exact (fun _ h => absurd h List.not_mem_nil) | refine List.forall_mem_cons.mpr ⟨rfl, ?_⟩)))
