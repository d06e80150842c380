/-! THE CLASS'S MESH BY ITS BOUNDS: edges freed, waiting, laid, joined. Rows laid by program (wip/tools/lay2.py, mk8a.py, mk81n.py). -/
theorem m_unbind {xs ys hx hy rd : Nat → Int32} {th : Int64} {hn g : Int32} {Q : pW} {w : pW} (h : cK xs ys hx hy th hn g rd Q w) {a b : Nat} (ha : a < 40) (hb : b < 40) : qC 93 [.ref 2, .int (nI a), .int (nI b)] w (cN xs ys hx hy th hn g rd Q) := by
  obtain ⟨hs1, fx1, ap1, ow1, co1, en1, ne1, t1, e1, li1, wa1, qu1, n1, hap1, hco1, hqu1, ht1, he1, hn1, rfl⟩ := h
  refine pc_run rfl ?_
  refine pe_go rfl (s_aload_n rfl) ?_
  refine pe_go rfl (s_getf rfl rfl) ?_
  refine pe_go rfl (s_iload_n rfl) ?_
  refine pe_go rfl s_dup2i ?_
  refine pe_go rfl (s_laldN (v := fx1 (a)) rfl (by omega) (by decide) rfl) ?_
  refine pe_go rfl s_lconst1 ?_
  refine pe_go rfl (s_iload_n rfl) ?_
  refine pe_go rfl s_lshl ?_
  refine pe_go rfl s_ldc2w ?_
  refine pe_go rfl s_lxor ?_
  refine pe_go rfl s_land ?_
  refine pe_go rfl (s_lastN rfl (by omega) (by decide) (w' := cM xs ys hs1 (vp_updL fx1 (a) ((fx1 (a)) &&& ((((1 : Int64)) <<< ((nI b).toInt64 &&& 63)) ^^^ (Int64.ofNat 18446744073709551615)))) hx hy th hn g ap1 ow1 co1 en1 ne1 rd (nI t1) (nI e1) li1 wa1 qu1 (nI n1) Q) rfl) ?_
  refine pe_go rfl (s_aload_n rfl) ?_
  refine pe_go rfl (s_getf rfl rfl) ?_
  refine pe_go rfl (s_iload_n rfl) ?_
  refine pe_go rfl s_dup2i ?_
  refine pe_go rfl (s_laldN (v := (vp_updL fx1 (a) ((fx1 (a)) &&& ((((1 : Int64)) <<< ((nI b).toInt64 &&& 63)) ^^^ (Int64.ofNat 18446744073709551615)))) (b)) rfl (by omega) (by decide) rfl) ?_
  refine pe_go rfl s_lconst1 ?_
  refine pe_go rfl (s_iload_n rfl) ?_
  refine pe_go rfl s_lshl ?_
  refine pe_go rfl s_ldc2w ?_
  refine pe_go rfl s_lxor ?_
  refine pe_go rfl s_land ?_
  refine pe_go rfl (s_lastN rfl (by omega) (by decide) (w' := cM xs ys hs1 (vp_updL (vp_updL fx1 (a) ((fx1 (a)) &&& ((((1 : Int64)) <<< ((nI b).toInt64 &&& 63)) ^^^ (Int64.ofNat 18446744073709551615)))) (b) (((vp_updL fx1 (a) ((fx1 (a)) &&& ((((1 : Int64)) <<< ((nI b).toInt64 &&& 63)) ^^^ (Int64.ofNat 18446744073709551615)))) (b)) &&& ((((1 : Int64)) <<< ((nI a).toInt64 &&& 63)) ^^^ (Int64.ofNat 18446744073709551615)))) hx hy th hn g ap1 ow1 co1 en1 ne1 rd (nI t1) (nI e1) li1 wa1 qu1 (nI n1) Q) rfl) ?_
  exact pe_ret rfl rfl ⟨rfl, ⟨_, _, _, _, _, _, _, _, _, _, _, _, _, hap1, hco1, hqu1, (by omega), (by omega), (by omega), rfl⟩⟩
theorem m_await {xs ys hx hy rd : Nat → Int32} {th : Int64} {hn g : Int32} {Q : pW} {w : pW} (h : cK xs ys hx hy th hn g rd Q w) {a b : Nat} (ha : a < 40) (hb : b < 40) : qC 22 [.ref 1, .int (nI a), .int (nI b)] w (cN xs ys hx hy th hn g rd Q) := by
  obtain ⟨hs1, fx1, ap1, ow1, co1, en1, ne1, t1, e1, li1, wa1, qu1, n1, hap1, hco1, hqu1, ht1, he1, hn1, rfl⟩ := h
  refine pc_run rfl ?_
  refine pe_go rfl (s_iload_n rfl) ?_
  refine pe_go rfl (s_iload_n rfl) ?_
  by_cases c2 : (b) ≤ (a)
  · skip
    refine pe_go rfl (s_icmp_ge_t ((nI_leI (by omega) (by omega)).mpr (by omega))) ?_
    refine pe_go rfl (s_iload_n rfl) ?_
    refine pe_go rfl (s_istore_n (lv' := [(3, .int (nI b)), (0, .ref 1), (1, .int (nI a)), (2, .int (nI b))]) rfl) ?_
    refine pe_go rfl (s_iload_n rfl) ?_
    refine pe_go rfl (s_iload_n rfl) ?_
    refine pe_go rfl (s_icmp_ge_t ((nI_leI (by omega) (by omega)).mpr (by omega))) ?_
    refine pe_go rfl (s_iload_n rfl) ?_
    refine pe_go rfl (s_istore (lv' := [(4, .int (nI a)), (3, .int (nI b)), (0, .ref 1), (1, .int (nI a)), (2, .int (nI b))]) rfl) ?_
    refine pe_go rfl (s_aload_n rfl) ?_
    refine pe_go rfl (s_getf rfl rfl) ?_
    refine pe_go rfl (s_iload_n rfl) ?_
    refine pe_go rfl (s_laldN (v := wa1 (b)) rfl (by omega) (by decide) rfl) ?_
    refine pe_go rfl (s_iload rfl) ?_
    refine pe_go rfl s_lushr ?_
    refine pe_go rfl s_lconst1 ?_
    refine pe_go rfl s_land ?_
    refine pe_go rfl s_lconst0 ?_
    refine pe_go rfl s_lcmp ?_
    by_cases d3 : lg_cmp ((((wa1 (b)).toUInt64 >>> ((nI a).toInt64.toUInt64 &&& Int64.toUInt64 63)).toInt64) &&& ((1 : Int64))) ((0 : Int64)) = 0
    · skip
      refine pe_go rfl (s_if_ne_f (fun e => e d3)) ?_
      refine pe_go rfl (s_aload_n rfl) ?_
      refine pe_go rfl (s_getf rfl rfl) ?_
      refine pe_go rfl (s_aload_n rfl) ?_
      refine pe_go rfl (s_getf rfl rfl) ?_
      refine pe_go rfl (s_alenN rfl rfl rfl) ?_
      by_cases c4 : (800) ≤ (n1)
      · skip
        refine pe_go rfl (s_icmp_ge_t ((nI_leI (by omega) (by omega)).mpr (by omega))) ?_
        exact pe_ret rfl rfl ⟨rfl, ⟨_, _, _, _, _, _, _, _, _, _, _, _, _, hap1, hco1, hqu1, (by omega), (by omega), (by omega), rfl⟩⟩
      · skip
        refine pe_go rfl (s_icmp_ge_f (fun e => absurd ((nI_leI (by omega) (by omega)).mp e) (by omega))) ?_
        refine pe_go rfl (s_aload_n rfl) ?_
        refine pe_go rfl (s_getf rfl rfl) ?_
        refine pe_go rfl (s_iload_n rfl) ?_
        refine pe_go rfl s_dup2i ?_
        refine pe_go rfl (s_laldN (v := wa1 (b)) rfl (by omega) (by decide) rfl) ?_
        refine pe_go rfl s_lconst1 ?_
        refine pe_go rfl (s_iload rfl) ?_
        refine pe_go rfl s_lshl ?_
        refine pe_go rfl s_lor ?_
        refine pe_go rfl (s_lastN rfl (by omega) (by decide) (w' := cM xs ys hs1 fx1 hx hy th hn g ap1 ow1 co1 en1 ne1 rd (nI t1) (nI e1) li1 (vp_updL wa1 (b) ((wa1 (b)) ||| (((1 : Int64)) <<< ((nI a).toInt64 &&& 63)))) qu1 (nI n1) Q) rfl) ?_
        refine pe_go rfl (s_aload_n rfl) ?_
        refine pe_go rfl (s_getf rfl rfl) ?_
        refine pe_go rfl (s_aload_n rfl) ?_
        refine pe_go rfl (s_getf rfl rfl) ?_
        refine pe_go rfl (s_iload_n rfl) ?_
        refine pe_go rfl s_bipush ?_
        refine pe_go rfl (s_imulN (c := b * 40) rfl) ?_
        refine pe_go rfl (s_iload rfl) ?_
        refine pe_go rfl (s_iaddN (c := (b * 40) + a) rfl) ?_
        refine pe_go rfl (s_iastN rfl (by omega) (by decide) (w' := cM xs ys hs1 fx1 hx hy th hn g ap1 ow1 co1 en1 ne1 rd (nI t1) (nI e1) li1 (vp_updL wa1 (b) ((wa1 (b)) ||| (((1 : Int64)) <<< ((nI a).toInt64 &&& 63)))) (upd qu1 (n1) (nI ((b * 40) + a))) (nI n1) Q) rfl) ?_
        refine pe_go rfl (s_aload_n rfl) ?_
        refine pe_go rfl (s_dup rfl) ?_
        refine pe_go rfl (s_getf rfl rfl) ?_
        refine pe_go rfl s_iconst ?_
        refine pe_go rfl (s_iaddN (c := n1 + 1) rfl) ?_
        refine pe_go rfl (s_putfN rfl (Nat.le_of_ble_eq_true rfl) rfl (w' := cM xs ys hs1 fx1 hx hy th hn g ap1 ow1 co1 en1 ne1 rd (nI t1) (nI e1) li1 (vp_updL wa1 (b) ((wa1 (b)) ||| (((1 : Int64)) <<< ((nI a).toInt64 &&& 63)))) (upd qu1 (n1) (nI ((b * 40) + a))) (nI (n1 + 1)) Q) rfl) ?_
        exact pe_ret rfl rfl ⟨rfl, ⟨_, _, _, _, _, _, _, _, _, _, _, _, _, hap1, hco1, (okQu_k hqu1 (by omega)), (by omega), (by omega), (by omega), rfl⟩⟩
    · skip
      refine pe_go rfl (s_if_ne_t d3) ?_
      exact pe_ret rfl rfl ⟨rfl, ⟨_, _, _, _, _, _, _, _, _, _, _, _, _, hap1, hco1, hqu1, (by omega), (by omega), (by omega), rfl⟩⟩
  · skip
    refine pe_go rfl (s_icmp_ge_f (fun e => absurd ((nI_leI (by omega) (by omega)).mp e) (by omega))) ?_
    refine pe_go rfl (s_iload_n rfl) ?_
    refine pe_go rfl s_goto ?_
    refine pe_go rfl (s_istore_n (lv' := [(3, .int (nI a)), (0, .ref 1), (1, .int (nI a)), (2, .int (nI b))]) rfl) ?_
    refine pe_go rfl (s_iload_n rfl) ?_
    refine pe_go rfl (s_iload_n rfl) ?_
    refine pe_go rfl (s_icmp_ge_f (fun e => absurd ((nI_leI (by omega) (by omega)).mp e) (by omega))) ?_
    refine pe_go rfl (s_iload_n rfl) ?_
    refine pe_go rfl s_goto ?_
    refine pe_go rfl (s_istore (lv' := [(4, .int (nI b)), (3, .int (nI a)), (0, .ref 1), (1, .int (nI a)), (2, .int (nI b))]) rfl) ?_
    refine pe_go rfl (s_aload_n rfl) ?_
    refine pe_go rfl (s_getf rfl rfl) ?_
    refine pe_go rfl (s_iload_n rfl) ?_
    refine pe_go rfl (s_laldN (v := wa1 (a)) rfl (by omega) (by decide) rfl) ?_
    refine pe_go rfl (s_iload rfl) ?_
    refine pe_go rfl s_lushr ?_
    refine pe_go rfl s_lconst1 ?_
    refine pe_go rfl s_land ?_
    refine pe_go rfl s_lconst0 ?_
    refine pe_go rfl s_lcmp ?_
    by_cases d5 : lg_cmp ((((wa1 (a)).toUInt64 >>> ((nI b).toInt64.toUInt64 &&& Int64.toUInt64 63)).toInt64) &&& ((1 : Int64))) ((0 : Int64)) = 0
    · skip
      refine pe_go rfl (s_if_ne_f (fun e => e d5)) ?_
      refine pe_go rfl (s_aload_n rfl) ?_
      refine pe_go rfl (s_getf rfl rfl) ?_
      refine pe_go rfl (s_aload_n rfl) ?_
      refine pe_go rfl (s_getf rfl rfl) ?_
      refine pe_go rfl (s_alenN rfl rfl rfl) ?_
      by_cases c6 : (800) ≤ (n1)
      · skip
        refine pe_go rfl (s_icmp_ge_t ((nI_leI (by omega) (by omega)).mpr (by omega))) ?_
        exact pe_ret rfl rfl ⟨rfl, ⟨_, _, _, _, _, _, _, _, _, _, _, _, _, hap1, hco1, hqu1, (by omega), (by omega), (by omega), rfl⟩⟩
      · skip
        refine pe_go rfl (s_icmp_ge_f (fun e => absurd ((nI_leI (by omega) (by omega)).mp e) (by omega))) ?_
        refine pe_go rfl (s_aload_n rfl) ?_
        refine pe_go rfl (s_getf rfl rfl) ?_
        refine pe_go rfl (s_iload_n rfl) ?_
        refine pe_go rfl s_dup2i ?_
        refine pe_go rfl (s_laldN (v := wa1 (a)) rfl (by omega) (by decide) rfl) ?_
        refine pe_go rfl s_lconst1 ?_
        refine pe_go rfl (s_iload rfl) ?_
        refine pe_go rfl s_lshl ?_
        refine pe_go rfl s_lor ?_
        refine pe_go rfl (s_lastN rfl (by omega) (by decide) (w' := cM xs ys hs1 fx1 hx hy th hn g ap1 ow1 co1 en1 ne1 rd (nI t1) (nI e1) li1 (vp_updL wa1 (a) ((wa1 (a)) ||| (((1 : Int64)) <<< ((nI b).toInt64 &&& 63)))) qu1 (nI n1) Q) rfl) ?_
        refine pe_go rfl (s_aload_n rfl) ?_
        refine pe_go rfl (s_getf rfl rfl) ?_
        refine pe_go rfl (s_aload_n rfl) ?_
        refine pe_go rfl (s_getf rfl rfl) ?_
        refine pe_go rfl (s_iload_n rfl) ?_
        refine pe_go rfl s_bipush ?_
        refine pe_go rfl (s_imulN (c := a * 40) rfl) ?_
        refine pe_go rfl (s_iload rfl) ?_
        refine pe_go rfl (s_iaddN (c := (a * 40) + b) rfl) ?_
        refine pe_go rfl (s_iastN rfl (by omega) (by decide) (w' := cM xs ys hs1 fx1 hx hy th hn g ap1 ow1 co1 en1 ne1 rd (nI t1) (nI e1) li1 (vp_updL wa1 (a) ((wa1 (a)) ||| (((1 : Int64)) <<< ((nI b).toInt64 &&& 63)))) (upd qu1 (n1) (nI ((a * 40) + b))) (nI n1) Q) rfl) ?_
        refine pe_go rfl (s_aload_n rfl) ?_
        refine pe_go rfl (s_dup rfl) ?_
        refine pe_go rfl (s_getf rfl rfl) ?_
        refine pe_go rfl s_iconst ?_
        refine pe_go rfl (s_iaddN (c := n1 + 1) rfl) ?_
        refine pe_go rfl (s_putfN rfl (Nat.le_of_ble_eq_true rfl) rfl (w' := cM xs ys hs1 fx1 hx hy th hn g ap1 ow1 co1 en1 ne1 rd (nI t1) (nI e1) li1 (vp_updL wa1 (a) ((wa1 (a)) ||| (((1 : Int64)) <<< ((nI b).toInt64 &&& 63)))) (upd qu1 (n1) (nI ((a * 40) + b))) (nI (n1 + 1)) Q) rfl) ?_
        exact pe_ret rfl rfl ⟨rfl, ⟨_, _, _, _, _, _, _, _, _, _, _, _, _, hap1, hco1, (okQu_k hqu1 (by omega)), (by omega), (by omega), (by omega), rfl⟩⟩
    · skip
      refine pe_go rfl (s_if_ne_t d5) ?_
      exact pe_ret rfl rfl ⟨rfl, ⟨_, _, _, _, _, _, _, _, _, _, _, _, _, hap1, hco1, hqu1, (by omega), (by omega), (by omega), rfl⟩⟩
theorem m_put {xs ys hx hy rd : Nat → Int32} {th : Int64} {hn g : Int32} {Q : pW} {w : pW} (h : cK xs ys hx hy th hn g rd Q w) {a b c : Nat} (ha : a < 40) (hb : b < 40) (hc : c < 40) : qC 21 [.ref 1, .int (nI a), .int (nI b), .int (nI c)] w (cN xs ys hx hy th hn g rd Q) := by
  obtain ⟨hs1, fx1, ap1, ow1, co1, en1, ne1, t1, e1, li1, wa1, qu1, n1, hap1, hco1, hqu1, ht1, he1, hn1, rfl⟩ := h
  refine pc_run rfl ?_
  refine pe_go rfl (s_aload_n rfl) ?_
  refine pe_go rfl (s_iload_n rfl) ?_
  refine pe_go rfl (s_iload_n rfl) ?_
  refine pe_go rfl (s_iload_n rfl) ?_
  refine pe_call rfl (s_invV rfl rfl rfl rfl) (c_lay (by omega) (by omega) (by omega)) ?_
  refine pe_go rfl (s_aload_n rfl) ?_
  refine pe_go rfl (s_iload_n rfl) ?_
  refine pe_go rfl (s_iload_n rfl) ?_
  refine pe_callE rfl (s_invV rfl rfl rfl rfl) (m_await ⟨_, _, _, _, _, _, _, _, _, _, _, _, _, (okAp_3 hap1 (by omega) (by omega) (by omega)), hco1, hqu1, (by omega), (by omega), (by omega), rfl⟩ (by omega) (by omega)) ?_
  rintro _ _ ⟨rfl, hs2, fx2, ap2, ow2, co2, en2, ne2, t2, e2, li2, wa2, qu2, n2, hap2, hco2, hqu2, ht2, he2, hn2, rfl⟩
  refine pe_go rfl (s_aload_n rfl) ?_
  refine pe_go rfl (s_iload_n rfl) ?_
  refine pe_go rfl (s_iload_n rfl) ?_
  refine pe_callE rfl (s_invV rfl rfl rfl rfl) (m_await ⟨_, _, _, _, _, _, _, _, _, _, _, _, _, hap2, hco2, hqu2, (by omega), (by omega), (by omega), rfl⟩ (by omega) (by omega)) ?_
  rintro _ _ ⟨rfl, hs3, fx3, ap3, ow3, co3, en3, ne3, t3, e3, li3, wa3, qu3, n3, hap3, hco3, hqu3, ht3, he3, hn3, rfl⟩
  refine pe_go rfl (s_aload_n rfl) ?_
  refine pe_go rfl (s_iload_n rfl) ?_
  refine pe_go rfl (s_iload_n rfl) ?_
  refine pe_callE rfl (s_invV rfl rfl rfl rfl) (m_await ⟨_, _, _, _, _, _, _, _, _, _, _, _, _, hap3, hco3, hqu3, (by omega), (by omega), (by omega), rfl⟩ (by omega) (by omega)) ?_
  rintro _ _ ⟨rfl, hs4, fx4, ap4, ow4, co4, en4, ne4, t4, e4, li4, wa4, qu4, n4, hap4, hco4, hqu4, ht4, he4, hn4, rfl⟩
  exact pe_ret rfl rfl ⟨rfl, ⟨_, _, _, _, _, _, _, _, _, _, _, _, _, hap4, hco4, hqu4, (by omega), (by omega), (by omega), rfl⟩⟩
theorem m_join {xs ys hx hy rd : Nat → Int32} {th : Int64} {hn g : Int32} {Q : pW} {w : pW} (h : cK xs ys hx hy th hn g rd Q w) {a b c : Nat} (ha : a < 40) (hb : b < 40) (hc : c < 40) : qC 10 [.ref 1, .int (nI a), .int (nI b), .int (nI c)] w (cN xs ys hx hy th hn g rd Q) := by
  obtain ⟨hs1, fx1, ap1, ow1, co1, en1, ne1, t1, e1, li1, wa1, qu1, n1, hap1, hco1, hqu1, ht1, he1, hn1, rfl⟩ := h
  refine pc_run rfl ?_
  refine pe_go rfl (s_aload_n rfl) ?_
  refine pe_go rfl (s_getf rfl rfl) ?_
  refine pe_go rfl (s_iload_n rfl) ?_
  refine pe_go rfl (s_iload_n rfl) ?_
  refine pe_go rfl (s_iload_n rfl) ?_
  refine pe_call rfl (s_invV rfl rfl rfl rfl) (c_side3 (by omega) (by omega) (by omega)) ?_
  by_cases d2 : sdF xs ys a b (xs c) (ys c) ≤ 0
  · skip
    refine pe_go rfl (s_if_le_t d2) ?_
    refine pe_go rfl (s_aload_n rfl) ?_
    refine pe_go rfl (s_getf rfl rfl) ?_
    refine pe_go rfl (s_iload_n rfl) ?_
    refine pe_go rfl (s_iload_n rfl) ?_
    refine pe_call rfl (s_invV rfl rfl rfl rfl) (c_isBound (by omega) (by omega)) ?_
    cases b3 : bt (fx1 a) b
    · skip
      refine pe_go rfl (s_if_eq_t (by decide)) ?_
      refine pe_go rfl (s_aload_n rfl) ?_
      refine pe_go rfl (s_getf rfl rfl) ?_
      refine pe_go rfl (s_iload_n rfl) ?_
      refine pe_go rfl s_bipush ?_
      refine pe_go rfl (s_imulN (c := b * 40) rfl) ?_
      refine pe_go rfl (s_iload_n rfl) ?_
      refine pe_go rfl (s_iaddN (c := (b * 40) + a) rfl) ?_
      rcases hap1 ((b * 40) + a) (by omega) with x4 | ⟨k4, y4, x4⟩
      · skip
        refine pe_go rfl (s_ialdN (v := nI 4294967295) rfl (by omega) (by decide) rfl x4) ?_
        refine pe_go rfl (s_istore (lv' := [(4, .int (nI 4294967295)), (0, .ref 1), (1, .int (nI a)), (2, .int (nI b)), (3, .int (nI c))]) rfl) ?_
        refine pe_go rfl (s_iload rfl) ?_
        refine pe_go rfl s_iconst ?_
        refine pe_go rfl (s_icmp_eq_t rfl) ?_
        exact pe_ret rfl rfl ⟨rfl, ⟨_, _, _, _, _, _, _, _, _, _, _, _, _, hap1, hco1, hqu1, (by omega), (by omega), (by omega), rfl⟩⟩
      · skip
        refine pe_go rfl (s_ialdN (v := nI k4) rfl (by omega) (by decide) rfl x4) ?_
        refine pe_go rfl (s_istore (lv' := [(4, .int (nI k4)), (0, .ref 1), (1, .int (nI a)), (2, .int (nI b)), (3, .int (nI c))]) rfl) ?_
        refine pe_go rfl (s_iload rfl) ?_
        refine pe_go rfl s_iconst ?_
        refine pe_go rfl (s_icmp_eq_f (nI_none (k := k4) (by omega))) ?_
        refine pe_go rfl (s_aload_n rfl) ?_
        refine pe_go rfl (s_iload_n rfl) ?_
        refine pe_go rfl (s_iload_n rfl) ?_
        refine pe_go rfl (s_iload rfl) ?_
        refine pe_call rfl (s_invV rfl rfl rfl rfl) (c_strip (by omega) (by omega) (by omega)) ?_
        refine pe_go rfl (s_aload_n rfl) ?_
        refine pe_go rfl (s_iload_n rfl) ?_
        refine pe_go rfl (s_iload rfl) ?_
        refine pe_go rfl (s_iload_n rfl) ?_
        refine pe_callE rfl (s_invV rfl rfl rfl rfl) (m_put ⟨_, _, _, _, _, _, _, _, _, _, _, _, _, (okAp_s hap1), hco1, hqu1, (by omega), (by omega), (by omega), rfl⟩ (by omega) (by omega) (by omega)) ?_
        rintro _ _ ⟨rfl, hs5, fx5, ap5, ow5, co5, en5, ne5, t5, e5, li5, wa5, qu5, n5, hap5, hco5, hqu5, ht5, he5, hn5, rfl⟩
        refine pe_go rfl (s_aload_n rfl) ?_
        refine pe_go rfl (s_iload rfl) ?_
        refine pe_go rfl (s_iload_n rfl) ?_
        refine pe_go rfl (s_iload_n rfl) ?_
        refine pe_callE rfl (s_invV rfl rfl rfl rfl) (m_put ⟨_, _, _, _, _, _, _, _, _, _, _, _, _, hap5, hco5, hqu5, (by omega), (by omega), (by omega), rfl⟩ (by omega) (by omega) (by omega)) ?_
        rintro _ _ ⟨rfl, hs6, fx6, ap6, ow6, co6, en6, ne6, t6, e6, li6, wa6, qu6, n6, hap6, hco6, hqu6, ht6, he6, hn6, rfl⟩
        exact pe_ret rfl rfl ⟨rfl, ⟨_, _, _, _, _, _, _, _, _, _, _, _, _, hap6, hco6, hqu6, (by omega), (by omega), (by omega), rfl⟩⟩
    · skip
      refine pe_go rfl (s_if_eq_f (by decide)) ?_
      refine pe_go rfl (s_aload_n rfl) ?_
      refine pe_go rfl (s_getf rfl rfl) ?_
      refine pe_go rfl (s_iload_n rfl) ?_
      refine pe_go rfl (s_iload_n rfl) ?_
      refine pe_callE rfl (s_invV rfl rfl rfl rfl) (m_unbind ⟨_, _, _, _, _, _, _, _, _, _, _, _, _, hap1, hco1, hqu1, (by omega), (by omega), (by omega), rfl⟩ (by omega) (by omega)) ?_
      rintro _ _ ⟨rfl, hs7, fx7, ap7, ow7, co7, en7, ne7, t7, e7, li7, wa7, qu7, n7, hap7, hco7, hqu7, ht7, he7, hn7, rfl⟩
      refine pe_go rfl (s_aload_n rfl) ?_
      refine pe_go rfl (s_getf rfl rfl) ?_
      refine pe_go rfl (s_iload_n rfl) ?_
      refine pe_go rfl (s_iload_n rfl) ?_
      refine pe_call rfl (s_invV rfl rfl rfl rfl) (c_bind (by omega) (by omega)) ?_
      refine pe_go rfl (s_aload_n rfl) ?_
      refine pe_go rfl (s_getf rfl rfl) ?_
      refine pe_go rfl (s_iload_n rfl) ?_
      refine pe_go rfl (s_iload_n rfl) ?_
      refine pe_call rfl (s_invV rfl rfl rfl rfl) (c_bind (by omega) (by omega)) ?_
      refine pe_go rfl (s_aload_n rfl) ?_
      refine pe_go rfl (s_getf rfl rfl) ?_
      refine pe_go rfl (s_iload_n rfl) ?_
      refine pe_go rfl s_bipush ?_
      refine pe_go rfl (s_imulN (c := b * 40) rfl) ?_
      refine pe_go rfl (s_iload_n rfl) ?_
      refine pe_go rfl (s_iaddN (c := (b * 40) + a) rfl) ?_
      rcases hap7 ((b * 40) + a) (by omega) with x8 | ⟨k8, y8, x8⟩
      · skip
        refine pe_go rfl (s_ialdN (v := nI 4294967295) rfl (by omega) (by decide) rfl x8) ?_
        refine pe_go rfl (s_istore (lv' := [(4, .int (nI 4294967295)), (0, .ref 1), (1, .int (nI a)), (2, .int (nI b)), (3, .int (nI c))]) rfl) ?_
        refine pe_go rfl (s_iload rfl) ?_
        refine pe_go rfl s_iconst ?_
        refine pe_go rfl (s_icmp_eq_t rfl) ?_
        exact pe_ret rfl rfl ⟨rfl, ⟨_, _, _, _, _, _, _, _, _, _, _, _, _, hap7, hco7, hqu7, (by omega), (by omega), (by omega), rfl⟩⟩
      · skip
        refine pe_go rfl (s_ialdN (v := nI k8) rfl (by omega) (by decide) rfl x8) ?_
        refine pe_go rfl (s_istore (lv' := [(4, .int (nI k8)), (0, .ref 1), (1, .int (nI a)), (2, .int (nI b)), (3, .int (nI c))]) rfl) ?_
        refine pe_go rfl (s_iload rfl) ?_
        refine pe_go rfl s_iconst ?_
        refine pe_go rfl (s_icmp_eq_f (nI_none (k := k8) (by omega))) ?_
        refine pe_go rfl (s_aload_n rfl) ?_
        refine pe_go rfl (s_iload_n rfl) ?_
        refine pe_go rfl (s_iload_n rfl) ?_
        refine pe_go rfl (s_iload rfl) ?_
        refine pe_call rfl (s_invV rfl rfl rfl rfl) (c_strip (by omega) (by omega) (by omega)) ?_
        refine pe_go rfl (s_aload_n rfl) ?_
        refine pe_go rfl (s_iload_n rfl) ?_
        refine pe_go rfl (s_iload rfl) ?_
        refine pe_go rfl (s_iload_n rfl) ?_
        refine pe_callE rfl (s_invV rfl rfl rfl rfl) (m_put ⟨_, _, _, _, _, _, _, _, _, _, _, _, _, (okAp_s hap7), hco7, hqu7, (by omega), (by omega), (by omega), rfl⟩ (by omega) (by omega) (by omega)) ?_
        rintro _ _ ⟨rfl, hs9, fx9, ap9, ow9, co9, en9, ne9, t9, e9, li9, wa9, qu9, n9, hap9, hco9, hqu9, ht9, he9, hn9, rfl⟩
        refine pe_go rfl (s_aload_n rfl) ?_
        refine pe_go rfl (s_iload rfl) ?_
        refine pe_go rfl (s_iload_n rfl) ?_
        refine pe_go rfl (s_iload_n rfl) ?_
        refine pe_callE rfl (s_invV rfl rfl rfl rfl) (m_put ⟨_, _, _, _, _, _, _, _, _, _, _, _, _, hap9, hco9, hqu9, (by omega), (by omega), (by omega), rfl⟩ (by omega) (by omega) (by omega)) ?_
        rintro _ _ ⟨rfl, hs10, fx10, ap10, ow10, co10, en10, ne10, t10, e10, li10, wa10, qu10, n10, hap10, hco10, hqu10, ht10, he10, hn10, rfl⟩
        exact pe_ret rfl rfl ⟨rfl, ⟨_, _, _, _, _, _, _, _, _, _, _, _, _, hap10, hco10, hqu10, (by omega), (by omega), (by omega), rfl⟩⟩
  · skip
    refine pe_go rfl (s_if_le_f d2) ?_
    refine pe_go rfl (s_aload_n rfl) ?_
    refine pe_go rfl (s_iload_n rfl) ?_
    refine pe_go rfl (s_iload_n rfl) ?_
    refine pe_go rfl (s_iload_n rfl) ?_
    refine pe_callE rfl (s_invV rfl rfl rfl rfl) (m_put ⟨_, _, _, _, _, _, _, _, _, _, _, _, _, hap1, hco1, hqu1, (by omega), (by omega), (by omega), rfl⟩ (by omega) (by omega) (by omega)) ?_
    rintro _ _ ⟨rfl, hs11, fx11, ap11, ow11, co11, en11, ne11, t11, e11, li11, wa11, qu11, n11, hap11, hco11, hqu11, ht11, he11, hn11, rfl⟩
    exact pe_ret rfl rfl ⟨rfl, ⟨_, _, _, _, _, _, _, _, _, _, _, _, _, hap11, hco11, hqu11, (by omega), (by omega), (by omega), rfl⟩⟩
theorem l_lift {xs ys hx hy rd : Nat → Int32} {th : Int64} {hn g : Int32} {Q : pW} : ∀ (m k : Nat), k + m = 40 → ∀ {w : pW}, cK xs ys hx hy th hn g rd Q w → qE 27 (2, [(1, .int (nI k)), (0, .ref 1)], [], w) (cN xs ys hx hy th hn g rd Q) := by
  intro m
  induction m with
  | zero =>
    intro k hk w h
    obtain rfl : k = 40 := by omega
    obtain ⟨hs1, fx1, ap1, ow1, co1, en1, ne1, t1, e1, li1, wa1, qu1, n1, hap1, hco1, hqu1, ht1, he1, hn1, rfl⟩ := h
    refine pe_go rfl (s_iload_n rfl) ?_
    refine pe_go rfl s_bipush ?_
    refine pe_go rfl (s_icmp_ge_t (Int32.le_refl _)) ?_
    exact pe_ret rfl rfl ⟨rfl, ⟨_, _, _, _, _, _, _, _, _, _, _, _, _, hap1, hco1, hqu1, (by omega), (by omega), (by omega), rfl⟩⟩
  | succ m ih =>
    intro k hk w h
    obtain ⟨hs1, fx1, ap1, ow1, co1, en1, ne1, t1, e1, li1, wa1, qu1, n1, hap1, hco1, hqu1, ht1, he1, hn1, rfl⟩ := h
    refine pe_go rfl (s_iload_n rfl) ?_
    refine pe_go rfl s_bipush ?_
    refine pe_go rfl (s_icmp_ge_f (fun e => absurd ((nI_leI (by omega) (by omega)).mp e) (by omega))) ?_
    refine pe_go rfl (s_aload_n rfl) ?_
    refine pe_go rfl (s_getf rfl rfl) ?_
    refine pe_go rfl (s_iload_n rfl) ?_
    refine pe_go rfl (s_aload_n rfl) ?_
    refine pe_go rfl (s_getf rfl rfl) ?_
    refine pe_go rfl (s_getf rfl rfl) ?_
    refine pe_go rfl (s_iload_n rfl) ?_
    refine pe_go rfl (s_ialdN (v := xs (k)) rfl (by omega) (by decide) rfl rfl) ?_
    refine pe_go rfl s_i2l ?_
    refine pe_go rfl (s_aload_n rfl) ?_
    refine pe_go rfl (s_getf rfl rfl) ?_
    refine pe_go rfl (s_getf rfl rfl) ?_
    refine pe_go rfl (s_iload_n rfl) ?_
    refine pe_go rfl (s_ialdN (v := xs (k)) rfl (by omega) (by decide) rfl rfl) ?_
    refine pe_go rfl s_i2l ?_
    refine pe_go rfl s_lmul ?_
    refine pe_go rfl (s_aload_n rfl) ?_
    refine pe_go rfl (s_getf rfl rfl) ?_
    refine pe_go rfl (s_getf rfl rfl) ?_
    refine pe_go rfl (s_iload_n rfl) ?_
    refine pe_go rfl (s_ialdN (v := ys (k)) rfl (by omega) (by decide) rfl rfl) ?_
    refine pe_go rfl s_i2l ?_
    refine pe_go rfl (s_aload_n rfl) ?_
    refine pe_go rfl (s_getf rfl rfl) ?_
    refine pe_go rfl (s_getf rfl rfl) ?_
    refine pe_go rfl (s_iload_n rfl) ?_
    refine pe_go rfl (s_ialdN (v := ys (k)) rfl (by omega) (by decide) rfl rfl) ?_
    refine pe_go rfl s_i2l ?_
    refine pe_go rfl s_lmul ?_
    refine pe_go rfl s_ladd ?_
    refine pe_go rfl (s_lastN rfl (by omega) (by decide) (w' := cM xs ys hs1 fx1 hx hy th hn g ap1 ow1 co1 en1 ne1 rd (nI t1) (nI e1) (vp_updL li1 (k) ((((xs (k)).toInt64) * ((xs (k)).toInt64)) + (((ys (k)).toInt64) * ((ys (k)).toInt64)))) wa1 qu1 (nI n1) Q) rfl) ?_
    refine pe_go rfl (s_iincN (y := nI (k + 1)) rfl (nI_add _ _) (lv' := [(1, .int (nI (k + 1))), (0, .ref 1)]) rfl) ?_
    refine pe_go rfl s_goto ?_
    exact ih (k + 1) (by omega) ⟨_, _, _, _, _, _, _, _, _, _, _, _, _, hap1, hco1, hqu1, (by omega), (by omega), (by omega), rfl⟩
theorem m_lift {xs ys hx hy rd : Nat → Int32} {th : Int64} {hn g : Int32} {Q : pW} {w : pW} (h : cK xs ys hx hy th hn g rd Q w)  : qC 27 [.ref 1] w (cN xs ys hx hy th hn g rd Q) := by
  obtain ⟨hs1, fx1, ap1, ow1, co1, en1, ne1, t1, e1, li1, wa1, qu1, n1, hap1, hco1, hqu1, ht1, he1, hn1, rfl⟩ := h
  refine pc_run rfl ?_
  refine pe_go rfl s_iconst ?_
  refine pe_go rfl (s_istore_n (lv' := [(1, .int (nI 0)), (0, .ref 1)]) rfl) ?_
  exact l_lift 40 0 rfl ⟨_, _, _, _, _, _, _, _, _, _, _, _, _, hap1, hco1, hqu1, (by omega), (by omega), (by omega), rfl⟩
