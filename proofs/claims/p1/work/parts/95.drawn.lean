/-! DRAWN, WHERE NO PLACE COMES TWICE: the class beside the reference. By hand and by program (wip/tools/mk95n.py). -/
def QA : pW := [.inr (1, [.ref 19, .ref 26, .ref 27, .ref 28, .ref 29, .ref 30, .ref 31, .int 0, .int 0, .ref 32, .ref 33, .ref 34, .int 0]),
  .inr (5, [.ref 20, .ref 21, .ref 22, .ref 23, .ref 24, .ref 25, .long 0, .int 0, .int 0]),
  .inl (0, 40, .inl (fun _ => 0)),
  .inl (0, 40, .inl (fun _ => 0)),
  .inl (0, 40, .inl (fun _ => 0)),
  .inl (1, 40, .inr (.inl (fun _ => 0))),
  .inl (0, 8, .inl (fun _ => 0)),
  .inl (0, 8, .inl (fun _ => 0)),
  .inl (0, 1600, .inl (fun _ => 0)),
  .inl (0, 1600, .inl (fun _ => 0)),
  .inl (0, 222, .inl (fun _ => 0)),
  .inl (0, 226, .inl (fun _ => 0)),
  .inl (1, 40, .inr (.inl (fun _ => 0))),
  .inl (0, 40, .inl (fun _ => 0)),
  .inl (1, 40, .inr (.inl (fun _ => 0))),
  .inl (1, 40, .inr (.inl (fun _ => 0))),
  .inl (0, 800, .inl (fun _ => 0)),
  .inr (3, [.ref 36, .ref 37, .int (nI 1)]),
  .inl (0, 7581, .inl sPn),
  .inl (1, 861, .inr (.inl sPb)),
  .inr (3, [.ref 39, .ref 40, .int 0]),
  .inl (0, 7581, .inl sPn),
  .inl (1, 861, .inr (.inl sPb)),
  .inr (4, [.ref 42, .ref 43, .int 0, .ref 44]),
  .inl (0, 74, .inl (fun _ => 0)),
  .inl (0, 74, .inl (fun _ => 0)),
  .inl (0, 74, .inl (fun _ => 0)),
  .inr (7, [.ref 46, .ref 47]),
  .inl (0, 40, .inl (fun _ => 0)),
  .inl (0, 113, .inl (fun _ => 0)),
  .inr (2, [.ref 49, .int 0, .ref 50]),
  .inl (0, 74, .inl (fun _ => 0)),
  .inl (0, 74, .inl (fun _ => 0)),
  .inr (6, [.ref 52, .int 0, .ref 53]),
  .inl (0, 40, .inl (fun _ => 0)),
  .inl (0, 40, .inl (fun _ => 0)),
  .inr (0, [.ref 55, .int 0]),
  .inl (0, 40, .inl (fun _ => 0)),
  .inl (0, 40, .inl (fun _ => 0))]
def QP : pW := QA ++ wMe
/-- the class's world behind push -/
def wPe : pW := cM sXs sYs (fun _ => 0) sFx (fun _ => 0) (fun _ => 0) 15 0 (nI 313) sAp sOw sCo sEn sNe (fun _ => 0) (nI 2) (nI 5) sLi (fun _ => 0) (fun _ => 0) (nI 0) QP
set_option maxRecDepth 1000000 in
theorem push0 : (match pGoX oA 100000 64 (0, lv_args 0 [.ref 35, .ref 1], [], w0e) with
  | some (none, w) => pEqB wPe w
  | _ => false) = true := by decide +kernel
theorem push1 : ∃ w, pRun 64 [.ref 35, .ref 1] w0e none w ∧ pEqW wPe w := by
  have h := push0
  split at h
  · rename_i w h1
    exact ⟨w, pGoX_ok oA_ok _ _ _ _ _ h1, pEqB_ok h⟩
  · cases h
theorem sAp_b : (List.range 1600).all (fun j => decide (sAp j = nI 4294967295) || (List.range 40).any (fun k => decide (sAp j = nI k))) = true := by decide +kernel
theorem sCo_b : (List.range 222).all (fun j => (List.range 40).any (fun k => decide (sCo j = nI k))) = true := by decide +kernel
theorem sAp_ok : okAp sAp := by
  intro j hj
  have h := List.all_eq_true.mp sAp_b j (List.mem_range.mpr hj)
  rw [Bool.or_eq_true, decide_eq_true_eq, List.any_eq_true] at h
  rcases h with h | ⟨k, h1, h2⟩
  · exact .inl h
  · exact .inr ⟨k, List.mem_range.mp h1, of_decide_eq_true h2⟩
theorem sCo_ok : okCo sCo := by
  intro j hj
  have h := List.all_eq_true.mp sCo_b j (List.mem_range.mpr hj)
  rw [List.any_eq_true] at h
  obtain ⟨k, h1, h2⟩ := h
  exact ⟨k, List.mem_range.mp h1, of_decide_eq_true h2⟩
theorem sTk_b : (List.range 40).all (fun p => !(bt 15 p) || (Nat.ble (p + 1) 4 && ((decide (sXs p = nI 1000) || decide (sXs p = nI 4294966296)) && (decide (sYs p = nI 1000) || decide (sYs p = nI 4294966296))))) = true := by decide +kernel
theorem sTk (m : Nat) : trk m 0 sXs sYs 15 := by
  intro p hp hb
  have h := List.all_eq_true.mp sTk_b p (List.mem_range.mpr hp)
  rw [hb, Bool.not_true, Bool.false_or, Bool.and_eq_true, Bool.and_eq_true, Bool.or_eq_true, Bool.or_eq_true, decide_eq_true_eq, decide_eq_true_eq, decide_eq_true_eq, decide_eq_true_eq] at h
  exact .inl ⟨Nat.le_of_ble_eq_true h.1, h.2⟩
theorem wPe_K : cK sXs sYs (fun _ => 0) (fun _ => 0) 15 0 (nI (gS 0)) (fun _ => 0) QP wPe := ⟨_, _, _, _, _, _, _, _, _, _, _, _, _, sAp_ok, sCo_ok, fun _ _ => ⟨0, by decide, rfl⟩, (by decide), (by decide), (by decide), rfl⟩
/-- a call of drawn on the class, from its loop on -/
theorem drawn_p {n m : Nat} {r : Option Value} {wp w1 : pW} (hn1 : 1 ≤ n) (hn : n ≤ 20) (hm1 : 1 ≤ m) (hm : m ≤ 1000) (p1 : pRun 64 [.ref 35, .ref 1] w0e none wp) (h1 : pRest 120 (41, [(4, .int (nI 0)), (3, .int (nI 0)), (0, .ref 0), (1, .int (nI n)), (2, .int (nI m))], [], wp) r w1) : pRun 120 [.ref 0, .int (nI n), .int (nI m)] w0e r w1 := by
  refine pr_run rfl ?_
  refine pr_go rfl (s_iload_n rfl) ?_
  refine pr_go rfl s_iconst ?_
  refine pr_go rfl (s_icmp_lt_f (fun e => absurd ((nI_ltI (by omega) (by omega)).mp e) (by omega))) ?_
  refine pr_go rfl (s_iload_n rfl) ?_
  refine pr_go rfl s_bipush ?_
  refine pr_go rfl (s_icmp_gt_f (fun e => absurd ((nI_ltI (by omega) (by omega)).mp e) (by omega))) ?_
  refine pr_go rfl (s_iload_n rfl) ?_
  refine pr_go rfl s_iconst ?_
  refine pr_go rfl (s_icmp_lt_f (fun e => absurd ((nI_ltI (by omega) (by omega)).mp e) (by omega))) ?_
  refine pr_go rfl (s_iload_n rfl) ?_
  refine pr_go rfl s_sipush ?_
  refine pr_go rfl (s_icmp_le_t ((nI_leI (by omega) (by omega)).mpr (by omega))) ?_
  refine pr_go rfl (s_aload_n rfl) ?_
  refine pr_go rfl (s_getf rfl rfl) ?_
  refine pr_go rfl (s_aload_n rfl) ?_
  refine pr_go rfl (s_getf rfl rfl) ?_
  refine pr_call rfl (s_invV rfl rfl rfl rfl) p1 ?_
  refine pr_go rfl s_iconst ?_
  refine pr_go rfl (s_istore_n (lv' := [(3, .int (nI 0)), (0, .ref 0), (1, .int (nI n)), (2, .int (nI m))]) rfl) ?_
  refine pr_go rfl s_iconst ?_
  refine pr_go rfl (s_istore (lv' := [(4, .int (nI 0)), (3, .int (nI 0)), (0, .ref 0), (1, .int (nI n)), (2, .int (nI m))]) rfl) ?_
  exact h1
theorem drawn_c {n m : Nat} {r : Option Value} {w2 : pW} (hn1 : 1 ≤ n) (hn : n ≤ 20) (hm1 : 1 ≤ m) (hm : m ≤ 1000) (h : pRest 120 (41, [(4, .int (nI 0)), (3, .int (nI 0)), (0, .ref 0), (1, .int (nI n)), (2, .int (nI m))], [], wPe) r w2) : ∃ w1, pRun 120 [.ref 0, .int (nI n), .int (nI m)] w0e r w1 ∧ pEqW w2 w1 := by
  obtain ⟨wp, p1, p2⟩ := push1
  obtain ⟨w1, h1, h2⟩ := pRest_e p2 h
  exact ⟨w1, drawn_p hn1 hn hm1 hm p1 h1, h2⟩
def R0 : RS := (sA, sA, sTr, sLf, (fun _ => 0), (fun _ => 0), (fun _ => 0), (fun _ => 0), (fun _ => 0), (fun _ => 0), (fun _ => 0), (fun _ => 0), (fun _ => 0), sIc, 2, 0, 0, 0, 2)
/-- both calls, where the class's world is known by its bounds -/
theorem cM_app {xs ys hs : Nat → Int32} {fx : Nat → Int64} {hx hy : Nat → Int32} {th : Int64} {hn g : Int32} {ap ow co en : Nat → Int32} {ne : Nat → Int64} {rd : Nat → Int32} {tn ec : Int32} {li wa : Nat → Int64} {qu : Nat → Int32} {qn : Int32} {A B : pW} : cM xs ys hs fx hx hy th hn g ap ow co en ne rd tn ec li wa qu qn (A ++ B) = cM xs ys hs fx hx hy th hn g ap ow co en ne rd tn ec li wa qu qn A ++ B := rfl
theorem cM_len {xs ys hs : Nat → Int32} {fx : Nat → Int64} {hx hy : Nat → Int32} {th : Int64} {hn g : Int32} {ap ow co en : Nat → Int32} {ne : Nat → Int64} {rd : Nat → Int32} {tn ec : Int32} {li wa : Nat → Int64} {qu : Nat → Int32} {qn : Int32} : (cM xs ys hs fx hx hy th hn g ap ow co en ne rd tn ec li wa qu qn QA).length = 57 := rfl
theorem wMe_e : wMe = rC 57 R0 := rfl
theorem sz_cM {xs ys hs : Nat → Int32} {fx : Nat → Int64} {hx hy : Nat → Int32} {th : Int64} {hn g : Int32} {ap ow co en : Nat → Int32} {ne : Nat → Int64} {rd : Nat → Int32} {tn ec : Int32} {li wa : Nat → Int64} {qu : Nat → Int32} {qn : Int32} {Q : pW} : pwsz (cM xs ys hs fx hx hy th hn g ap ow co en ne rd tn ec li wa qu qn Q) = 4816 + pwsz Q := by
  unfold cM pwsz
  simp only [List.map_cons, List.sum_cons, pcsz, List.length_cons, List.length_nil]
  omega
theorem sz_rC {o : Nat} {R : RS} : pwsz (rC o R) = 78877 := by
  unfold rC rO pwsz
  simp only [List.map_cons, List.map_nil, List.sum_cons, List.sum_nil, pcsz, List.length_cons, List.length_nil]
  omega
theorem sz_QA : pwsz QA ≤ 100000 := by decide +kernel
theorem drawn_b {n m c : Nat} {xs ys hx hy : Nat → Int32} {th : Int64} {hn g : Int32} {rd : Nat → Int32} {w1 w2 : pW} (hn1 : 1 ≤ n) (hn20 : n ≤ 20) (hm1 : 1 ≤ m) (hm : m ≤ 1000) (r1 : pRun 120 [.ref 0, .int (nI n), .int (nI m)] w0e (some (.int (nI c))) w1) (e1 : pEqW w2 w1) (hK : cK xs ys hx hy th hn g rd QP w2) (hc : (dAll m n f00 313 0).2 = c) (hl : ∃ L, layF (dAll m n f00 313 0).1 = some L ∧ good L) : lOweI 57 w0e 120 245 [.int (nI n), .int (nI m)] := by
  obtain ⟨hs, fx, ap, ow, co, en, ne, t, e, li, wa, qu, q, _, _, _, _, _, _, rfl⟩ := hK
  obtain ⟨L, hl1, hl2⟩ := hl
  obtain ⟨A, hA⟩ : ∃ A : pW, A = cM xs ys hs fx hx hy th hn g ap ow co en ne rd (nI t) (nI e) li wa qu (nI q) QA := ⟨_, rfl⟩
  have lA : A.length = 57 := by rw [hA]; exact cM_len
  have sA1 : pwsz A ≤ 200000 := by
    rw [hA, sz_cM]
    have := sz_QA
    omega
  have eW : cM xs ys hs fx hx hy th hn g ap ow co en ne rd (nI t) (nI e) li wa qu (nI q) QP = rW A R0 := by
    unfold QP rW
    rw [cM_app, ← hA, lA, wMe_e]
  rw [eW] at e1
  obtain ⟨R', r2⟩ := r_drawnR (A := A) (R := R0) (n := n) (m := m) (g := 313) hn1 hn20 hm1 hm (by decide +kernel) (by decide +kernel) (by decide +kernel) (by decide) hl1 hl2
  obtain ⟨w3, r3, e3⟩ := pRun_e e1 r2
  have hc2 : (dAll m n (upd (kpF R0.a 1778) 0 (nI 1)) 313 0).2 = c := hc
  rw [hc2, lA] at r3
  refine ⟨nI c, w1, w3, r1, r3, ?_, ?_⟩
  · rw [← e3.1]
    unfold rW
    rw [List.length_append, lA]
    show 57 + 15 ≤ 600000
    decide
  · rw [← e3.sz]
    unfold rW
    rw [pwsz_cat, sz_rC]
    omega
theorem o5_good {n m : Nat} (hn1 : 1 ≤ n) (hn : n ≤ 20) (hm1 : 1 ≤ m) (hm : m ≤ 1000) (h : runM m 24 GL P0 D0 4 = true) : lOweI 57 w0e 120 245 [.int (nI n), .int (nI m)] := by
  obtain ⟨hp, hc, hl⟩ := cfg_ok hm hn h
  obtain ⟨r, w2, ⟨rfl, xs, ys, th, g, hK⟩, h2⟩ := l_drawnC hn hm hp n 0 (by omega) (sTk m) wPe_K (lvLe_of (lv' := [(4, .int (nI 0)), (3, .int (nI 0)), (0, .ref 0), (1, .int (nI n)), (2, .int (nI m))]) rfl rfl (by repeat' (first | exact (fun _ h => absurd h List.not_mem_nil) | refine List.forall_mem_cons.mpr ⟨rfl, ?_⟩)))
  obtain ⟨w1, r1, e1⟩ := drawn_c hn1 hn hm1 hm h2
  exact drawn_b hn1 hn hm1 hm r1 e1 hK hc hl
theorem i_nI {i : Int32} {k : Int} (h : i.toInt = k) (h0 : 0 ≤ k) : i = nI k.toNat := by
  have hl := Int32.toInt_lt i
  apply Int32.toInt_inj.mp
  rw [nI_toInt (by omega), h]
  omega
