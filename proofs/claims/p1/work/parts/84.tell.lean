/-! THE CLASS TELLS A POINT, its mesh by its bounds. Rows laid by program (wip/tools/lay2.py, mk8a.py, mk84n.py). -/
theorem m_corner {xs : Nat → Int32} {ys : Nat → Int32} {hs : Nat → Int32} {fx : Nat → Int64} {hx : Nat → Int32} {hy : Nat → Int32} {th : Int64} {hn : Int32} {g : Int32} {ap : Nat → Int32} {ow : Nat → Int32} {co : Nat → Int32} {en : Nat → Int32} {ne : Nat → Int64} {rd : Nat → Int32} {tn : Int32} {ec : Int32} {li : Nat → Int64} {wa : Nat → Int64} {qu : Nat → Int32} {qn : Int32} {Q : pW} (hco : okCo co) {t k : Nat} (ht : t < 74) (hk : k < 3) : qC 35 [.ref 1, .int (nI t), .int (nI k)] (cM xs ys hs fx hx hy th hn g ap ow co en ne rd tn ec li wa qu qn Q) (fun r w1 => w1 = (cM xs ys hs fx hx hy th hn g ap ow co en ne rd tn ec li wa qu qn Q) ∧ ∃ z : Nat, z < 40 ∧ r = some (.int (nI z))) := by
  obtain ⟨z, hz, e⟩ := hco (3 * t + k) (by omega)
  exact ⟨_, _, ⟨rfl, z, hz, congrArg (fun v => some (Value.int v)) e⟩, c_cornerOf ht hk⟩
theorem m_holds {xs : Nat → Int32} {ys : Nat → Int32} {hs : Nat → Int32} {fx : Nat → Int64} {hx : Nat → Int32} {hy : Nat → Int32} {th : Int64} {hn : Int32} {g : Int32} {ap : Nat → Int32} {ow : Nat → Int32} {co : Nat → Int32} {en : Nat → Int32} {ne : Nat → Int64} {rd : Nat → Int32} {tn : Int32} {ec : Int32} {li : Nat → Int64} {wa : Nat → Int64} {qu : Nat → Int32} {qn : Int32} {Q : pW} (hco : okCo co) {t : Nat} {x y : Int32} (ht : t < 74) : qC 43 [.ref 1, .int (nI t), .int x, .int y] (cM xs ys hs fx hx hy th hn g ap ow co en ne rd tn ec li wa qu qn Q) (fun r w1 => w1 = (cM xs ys hs fx hx hy th hn g ap ow co en ne rd tn ec li wa qu qn Q) ∧ ∃ b : Bool, r = some (.int (bI b))) := by
  obtain ⟨a, ha, e0⟩ := hco (3 * t + 0) (by omega)
  obtain ⟨b, hb, e1⟩ := hco (3 * t + 1) (by omega)
  obtain ⟨c, hc, e2⟩ := hco (3 * t + 2) (by omega)
  exact ⟨_, _, ⟨rfl, _, rfl⟩, c_holds ht e0 e1 e2 ha hb hc⟩
theorem l_where {xs : Nat → Int32} {ys : Nat → Int32} {hs : Nat → Int32} {fx : Nat → Int64} {hx : Nat → Int32} {hy : Nat → Int32} {th : Int64} {hn : Int32} {g : Int32} {ap : Nat → Int32} {ow : Nat → Int32} {co : Nat → Int32} {en : Nat → Int32} {ne : Nat → Int64} {rd : Nat → Int32} {ec : Int32} {li : Nat → Int64} {wa : Nat → Int64} {qu : Nat → Int32} {qn : Int32} {Q : pW} {t : Nat} {x y : Int32} (hco : okCo co) (ht : t ≤ 74) : ∀ (m k : Nat), k + m = t → qE 44 (2, [(3, .int (nI k)), (0, .ref 1), (1, .int x), (2, .int y)], [], (cM xs ys hs fx hx hy th hn g ap ow co en ne rd (nI t) ec li wa qu qn Q)) (fun r w1 => w1 = (cM xs ys hs fx hx hy th hn g ap ow co en ne rd (nI t) ec li wa qu qn Q) ∧ (r = some (.int (nI 4294967295)) ∨ ∃ z : Nat, z < 74 ∧ r = some (.int (nI z)))) := by
  intro m
  induction m with
  | zero =>
    intro k hk
    obtain rfl : k = t := by omega
    refine pe_go rfl (s_iload_n rfl) ?_
    refine pe_go rfl (s_aload_n rfl) ?_
    refine pe_go rfl (s_getf rfl rfl) ?_
    refine pe_go rfl (s_icmp_ge_t (Int32.le_refl _)) ?_
    refine pe_go rfl s_iconst ?_
    exact pe_ret rfl s_retI ⟨rfl, .inl rfl⟩
  | succ m ih =>
    intro k hk
    refine pe_go rfl (s_iload_n rfl) ?_
    refine pe_go rfl (s_aload_n rfl) ?_
    refine pe_go rfl (s_getf rfl rfl) ?_
    refine pe_go rfl (s_icmp_ge_f (fun e => absurd ((nI_leI (by omega) (by omega)).mp e) (by omega))) ?_
    refine pe_go rfl (s_iload_n rfl) ?_
    refine pe_go rfl (s_iload_n rfl) ?_
    refine pe_call rfl (s_invN rfl rfl rfl) (c_inSquare) ?_
    cases b1 : sqB x y
    · skip
      refine pe_go rfl (s_if_eq_t (by decide)) ?_
      refine pe_go rfl s_iconst ?_
      exact pe_ret rfl s_retI ⟨rfl, .inl rfl⟩
    · skip
      refine pe_go rfl (s_if_eq_f (by decide)) ?_
      refine pe_go rfl (s_aload_n rfl) ?_
      refine pe_go rfl (s_iload_n rfl) ?_
      refine pe_go rfl (s_iload_n rfl) ?_
      refine pe_go rfl (s_iload_n rfl) ?_
      refine pe_callE rfl (s_invV rfl rfl rfl rfl) (m_holds hco (by omega)) ?_
      rintro _ _ ⟨rfl, b2, rfl⟩
      cases b3 : b2
      · skip
        refine pe_go rfl (s_if_eq_t (by decide)) ?_
        refine pe_go rfl (s_iincN (y := nI (k + 1)) rfl (nI_add _ _) (lv' := [(3, .int (nI (k + 1))), (0, .ref 1), (1, .int x), (2, .int y)]) rfl) ?_
        refine pe_go rfl s_goto ?_
        exact ih (k + 1) (by omega)
      · skip
        refine pe_go rfl (s_if_eq_f (by decide)) ?_
        refine pe_go rfl (s_iload_n rfl) ?_
        exact pe_ret rfl s_retI ⟨rfl, .inr ⟨k, by omega, rfl⟩⟩
theorem m_where {xs : Nat → Int32} {ys : Nat → Int32} {hs : Nat → Int32} {fx : Nat → Int64} {hx : Nat → Int32} {hy : Nat → Int32} {th : Int64} {hn : Int32} {g : Int32} {ap : Nat → Int32} {ow : Nat → Int32} {co : Nat → Int32} {en : Nat → Int32} {ne : Nat → Int64} {rd : Nat → Int32} {ec : Int32} {li : Nat → Int64} {wa : Nat → Int64} {qu : Nat → Int32} {qn : Int32} {Q : pW} {t : Nat} {x y : Int32} (hco : okCo co) (ht : t ≤ 74) : qC 44 [.ref 1, .int x, .int y] (cM xs ys hs fx hx hy th hn g ap ow co en ne rd (nI t) ec li wa qu qn Q) (fun r w1 => w1 = (cM xs ys hs fx hx hy th hn g ap ow co en ne rd (nI t) ec li wa qu qn Q) ∧ (r = some (.int (nI 4294967295)) ∨ ∃ z : Nat, z < 74 ∧ r = some (.int (nI z)))) := by
  refine pc_run rfl ?_
  refine pe_go rfl s_iconst ?_
  refine pe_go rfl (s_istore_n (lv' := [(3, .int (nI 0)), (0, .ref 1), (1, .int x), (2, .int y)]) rfl) ?_
  exact l_where hco ht t 0 (by omega)
theorem m_insert {xs ys hx hy rd : Nat → Int32} {th : Int64} {hn g : Int32} {Q : pW} {w : pW} (h : cK xs ys hx hy th hn g rd Q w) {p : Nat} {x y : Int32} (hp : p < 40) : qC 9 [.ref 1, .int (nI p), .int x, .int y] w (fun r w1 => r = none ∧ (cK xs ys hx hy th hn g rd Q w1 ∨ cK (upd xs p x) (upd ys p y) hx hy (th ||| sh1 p) hn g rd Q w1)) := by
  obtain ⟨hs1, fx1, ap1, ow1, co1, en1, ne1, t1, e1, li1, wa1, qu1, n1, hap1, hco1, hqu1, ht1, he1, hn1, rfl⟩ := h
  refine pc_run rfl ?_
  refine pe_go rfl (s_aload_n rfl) ?_
  refine pe_go rfl (s_iload_n rfl) ?_
  refine pe_go rfl (s_iload_n rfl) ?_
  refine pe_callE rfl (s_invV rfl rfl rfl rfl) (m_where hco1 (by omega)) ?_
  rintro _ _ ⟨rfl, rfl | ⟨z2, hz2, rfl⟩⟩
  · skip
    refine pe_go rfl (s_istore (lv' := [(4, .int (nI 4294967295)), (0, .ref 1), (1, .int (nI p)), (2, .int x), (3, .int y)]) rfl) ?_
    refine pe_go rfl (s_iload rfl) ?_
    refine pe_go rfl s_iconst ?_
    refine pe_go rfl (s_icmp_ne_f (fun e => e rfl)) ?_
    exact pe_ret rfl rfl ⟨rfl, .inl ⟨_, _, _, _, _, _, _, _, _, _, _, _, _, hap1, hco1, hqu1, (by omega), (by omega), (by omega), rfl⟩⟩
  · skip
    refine pe_go rfl (s_istore (lv' := [(4, .int (nI z2)), (0, .ref 1), (1, .int (nI p)), (2, .int x), (3, .int y)]) rfl) ?_
    refine pe_go rfl (s_iload rfl) ?_
    refine pe_go rfl s_iconst ?_
    refine pe_go rfl (s_icmp_ne_t (nI_none (k := z2) (by omega))) ?_
    refine pe_go rfl (s_aload_n rfl) ?_
    refine pe_go rfl (s_iload rfl) ?_
    refine pe_go rfl s_iconst ?_
    refine pe_callE rfl (s_invV rfl rfl rfl rfl) (m_corner hco1 (by omega) (by omega)) ?_
    rintro _ _ ⟨rfl, z3, hz3, rfl⟩
    refine pe_go rfl (s_istore (lv' := [(5, .int (nI z3)), (4, .int (nI z2)), (0, .ref 1), (1, .int (nI p)), (2, .int x), (3, .int y)]) rfl) ?_
    refine pe_go rfl (s_aload_n rfl) ?_
    refine pe_go rfl (s_iload rfl) ?_
    refine pe_go rfl s_iconst ?_
    refine pe_callE rfl (s_invV rfl rfl rfl rfl) (m_corner hco1 (by omega) (by omega)) ?_
    rintro _ _ ⟨rfl, z4, hz4, rfl⟩
    refine pe_go rfl (s_istore (lv' := [(6, .int (nI z4)), (5, .int (nI z3)), (4, .int (nI z2)), (0, .ref 1), (1, .int (nI p)), (2, .int x), (3, .int y)]) rfl) ?_
    refine pe_go rfl (s_aload_n rfl) ?_
    refine pe_go rfl (s_iload rfl) ?_
    refine pe_go rfl s_iconst ?_
    refine pe_callE rfl (s_invV rfl rfl rfl rfl) (m_corner hco1 (by omega) (by omega)) ?_
    rintro _ _ ⟨rfl, z5, hz5, rfl⟩
    refine pe_go rfl (s_istore (lv' := [(7, .int (nI z5)), (6, .int (nI z4)), (5, .int (nI z3)), (4, .int (nI z2)), (0, .ref 1), (1, .int (nI p)), (2, .int x), (3, .int y)]) rfl) ?_
    refine pe_go rfl (s_aload_n rfl) ?_
    refine pe_go rfl (s_getf rfl rfl) ?_
    refine pe_go rfl (s_iload_n rfl) ?_
    refine pe_go rfl (s_iload_n rfl) ?_
    refine pe_go rfl (s_iload_n rfl) ?_
    refine pe_call rfl (s_invV rfl rfl rfl rfl) (c_place (by omega)) ?_
    refine pe_go rfl (s_aload_n rfl) ?_
    refine pe_go rfl (s_iload rfl) ?_
    refine pe_go rfl (s_iload rfl) ?_
    refine pe_go rfl (s_iload rfl) ?_
    refine pe_call rfl (s_invV rfl rfl rfl rfl) (c_strip (by omega) (by omega) (by omega)) ?_
    refine pe_go rfl (s_aload_n rfl) ?_
    refine pe_go rfl (s_iload rfl) ?_
    refine pe_go rfl (s_iload rfl) ?_
    refine pe_go rfl (s_iload_n rfl) ?_
    refine pe_callE rfl (s_invV rfl rfl rfl rfl) (m_join ⟨_, _, _, _, _, _, _, _, _, _, _, _, _, (okAp_s hap1), hco1, hqu1, (by omega), (by omega), (by omega), rfl⟩ (by omega) (by omega) (by omega)) ?_
    rintro _ _ ⟨rfl, hs6, fx6, ap6, ow6, co6, en6, ne6, t6, e6, li6, wa6, qu6, n6, hap6, hco6, hqu6, ht6, he6, hn6, rfl⟩
    refine pe_go rfl (s_aload_n rfl) ?_
    refine pe_go rfl (s_iload rfl) ?_
    refine pe_go rfl (s_iload rfl) ?_
    refine pe_go rfl (s_iload_n rfl) ?_
    refine pe_callE rfl (s_invV rfl rfl rfl rfl) (m_join ⟨_, _, _, _, _, _, _, _, _, _, _, _, _, hap6, hco6, hqu6, (by omega), (by omega), (by omega), rfl⟩ (by omega) (by omega) (by omega)) ?_
    rintro _ _ ⟨rfl, hs7, fx7, ap7, ow7, co7, en7, ne7, t7, e7, li7, wa7, qu7, n7, hap7, hco7, hqu7, ht7, he7, hn7, rfl⟩
    refine pe_go rfl (s_aload_n rfl) ?_
    refine pe_go rfl (s_iload rfl) ?_
    refine pe_go rfl (s_iload rfl) ?_
    refine pe_go rfl (s_iload_n rfl) ?_
    refine pe_callE rfl (s_invV rfl rfl rfl rfl) (m_join ⟨_, _, _, _, _, _, _, _, _, _, _, _, _, hap7, hco7, hqu7, (by omega), (by omega), (by omega), rfl⟩ (by omega) (by omega) (by omega)) ?_
    rintro _ _ ⟨rfl, hs8, fx8, ap8, ow8, co8, en8, ne8, t8, e8, li8, wa8, qu8, n8, hap8, hco8, hqu8, ht8, he8, hn8, rfl⟩
    refine pe_go rfl (s_aload_n rfl) ?_
    refine pe_callE rfl (s_invV rfl rfl rfl rfl) (m_settle ⟨_, _, _, _, _, _, _, _, _, _, _, _, _, hap8, hco8, hqu8, (by omega), (by omega), (by omega), rfl⟩) ?_
    rintro _ _ ⟨rfl, hs9, fx9, ap9, ow9, co9, en9, ne9, t9, e9, li9, wa9, qu9, n9, hap9, hco9, hqu9, ht9, he9, hn9, rfl⟩
    exact pe_ret rfl rfl ⟨rfl, .inr ⟨_, _, _, _, _, _, _, _, _, _, _, _, _, hap9, hco9, hqu9, (by omega), (by omega), (by omega), rfl⟩⟩
theorem tkB_lu {xs ys : Nat → Int32} {th : Int64} {x y : Int32} (h : tkB xs ys th x y = true) : luG th 36 4 < 40 := by
  rcases luG_le (th := th) (m := 36) (k := 4) (by omega) with h1 | h1
  · exact h1
  · exfalso
    unfold tkB at h
    rw [h1] at h
    simp at h
theorem m_tell0 {xs ys hx hy rd : Nat → Int32} {th : Int64} {hn g : Int32} {Q : pW} {w : pW} (h : cK xs ys hx hy th hn g rd Q w) {x y : Int32} (hk : tkB xs ys th x y = false) : qC 8 [.ref 1, .int x, .int y] w (fun r w1 => r = some (.int (nI 4294967295)) ∧ cK xs ys hx hy th hn g rd Q w1) := by
  obtain ⟨hs1, fx1, ap1, ow1, co1, en1, ne1, t1, e1, li1, wa1, qu1, n1, hap1, hco1, hqu1, ht1, he1, hn1, rfl⟩ := h
  refine pc_run rfl ?_
  refine pe_go rfl (s_aload_n rfl) ?_
  refine pe_go rfl (s_getf rfl rfl) ?_
  refine pe_go rfl (s_iload_n rfl) ?_
  refine pe_go rfl (s_iload_n rfl) ?_
  refine pe_call rfl (s_invV rfl rfl rfl rfl) (c_takes) ?_
  refine pe_go rfl (s_if_ne_f (by rw [hk]; decide)) ?_
  refine pe_go rfl s_iconst ?_
  exact pe_ret rfl s_retI ⟨rfl, ⟨_, _, _, _, _, _, _, _, _, _, _, _, _, hap1, hco1, hqu1, (by omega), (by omega), (by omega), rfl⟩⟩
theorem m_tell1 {xs ys hx hy rd : Nat → Int32} {th : Int64} {hn g : Int32} {Q : pW} {w : pW} (h : cK xs ys hx hy th hn g rd Q w) {x y : Int32} (hk : tkB xs ys th x y = true) : qC 8 [.ref 1, .int x, .int y] w (fun r w1 => r = some (.int (nI (luG th 36 4))) ∧ (cK xs ys hx hy th hn g rd Q w1 ∨ cK (upd xs (luG th 36 4) x) (upd ys (luG th 36 4) y) hx hy (th ||| sh1 (luG th 36 4)) hn g rd Q w1)) := by
  have hlu := tkB_lu hk
  obtain ⟨hs1, fx1, ap1, ow1, co1, en1, ne1, t1, e1, li1, wa1, qu1, n1, hap1, hco1, hqu1, ht1, he1, hn1, rfl⟩ := h
  refine pc_run rfl ?_
  refine pe_go rfl (s_aload_n rfl) ?_
  refine pe_go rfl (s_getf rfl rfl) ?_
  refine pe_go rfl (s_iload_n rfl) ?_
  refine pe_go rfl (s_iload_n rfl) ?_
  refine pe_call rfl (s_invV rfl rfl rfl rfl) (c_takes) ?_
  refine pe_go rfl (s_if_ne_t (by rw [hk]; decide)) ?_
  refine pe_go rfl (s_aload_n rfl) ?_
  refine pe_go rfl (s_getf rfl rfl) ?_
  refine pe_call rfl (s_invV rfl rfl rfl rfl) (c_least) ?_
  refine pe_go rfl (s_istore_n (lv' := [(3, .int (nI (luG th 36 4))), (0, .ref 1), (1, .int x), (2, .int y)]) rfl) ?_
  refine pe_go rfl (s_aload_n rfl) ?_
  refine pe_go rfl (s_getf rfl rfl) ?_
  refine pe_go rfl (s_getf rfl rfl) ?_
  refine pe_go rfl (s_iload_n rfl) ?_
  refine pe_go rfl s_iconst ?_
  refine pe_go rfl (s_iastN rfl (by omega) (by decide) (w' := cM xs ys (upd hs1 (luG th 36 4) (nI 0)) fx1 hx hy th hn g ap1 ow1 co1 en1 ne1 rd (nI t1) (nI e1) li1 wa1 qu1 (nI n1) Q) rfl) ?_
  refine pe_go rfl (s_aload_n rfl) ?_
  refine pe_go rfl (s_iload_n rfl) ?_
  refine pe_go rfl (s_iload_n rfl) ?_
  refine pe_go rfl (s_iload_n rfl) ?_
  refine pe_callE rfl (s_invV rfl rfl rfl rfl) (m_insert ⟨_, _, _, _, _, _, _, _, _, _, _, _, _, hap1, hco1, hqu1, (by omega), (by omega), (by omega), rfl⟩ (by omega)) ?_
  rintro _ _ ⟨rfl, ⟨hs2, fx2, ap2, ow2, co2, en2, ne2, t2, e2, li2, wa2, qu2, n2, hap2, hco2, hqu2, ht2, he2, hn2, rfl⟩ | ⟨hs3, fx3, ap3, ow3, co3, en3, ne3, t3, e3, li3, wa3, qu3, n3, hap3, hco3, hqu3, ht3, he3, hn3, rfl⟩⟩
  · skip
    refine pe_go rfl (s_iload_n rfl) ?_
    exact pe_ret rfl s_retI ⟨rfl, .inl ⟨_, _, _, _, _, _, _, _, _, _, _, _, _, hap2, hco2, hqu2, (by omega), (by omega), (by omega), rfl⟩⟩
  · skip
    refine pe_go rfl (s_iload_n rfl) ?_
    exact pe_ret rfl s_retI ⟨rfl, .inr ⟨_, _, _, _, _, _, _, _, _, _, _, _, _, hap3, hco3, hqu3, (by omega), (by omega), (by omega), rfl⟩⟩
