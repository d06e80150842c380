/-! THE CLASS'S MESH BY ITS BOUNDS: edges that may be, flips, till all may. Rows laid by program (wip/tools/lay2.py, mk8a.py, mk82n.py). -/
theorem m_under {xs : Nat → Int32} {ys : Nat → Int32} {hs : Nat → Int32} {fx : Nat → Int64} {hx : Nat → Int32} {hy : Nat → Int32} {th : Int64} {hn : Int32} {g : Int32} {ap : Nat → Int32} {ow : Nat → Int32} {co : Nat → Int32} {en : Nat → Int32} {ne : Nat → Int64} {rd : Nat → Int32} {tn : Int32} {ec : Int32} {li : Nat → Int64} {wa : Nat → Int64} {qu : Nat → Int32} {qn : Int32} {Q : pW} {a b c : Nat} {x y : Int32} {z : Int64} (ha : a < 40) (hb : b < 40) (hc : c < 40) : qC 29 [.ref 1, .int (nI a), .int (nI b), .int (nI c), .int x, .int y, .long z] (cM xs ys hs fx hx hy th hn g ap ow co en ne rd tn ec li wa qu qn Q) (fun r w1 => w1 = (cM xs ys hs fx hx hy th hn g ap ow co en ne rd tn ec li wa qu qn Q) ∧ ∃ v : Int64, r = some (.long v)) := by
  refine pc_run rfl ?_
  refine pe_go rfl (s_aload_n rfl) ?_
  refine pe_go rfl (s_getf rfl rfl) ?_
  refine pe_go rfl (s_getf rfl rfl) ?_
  refine pe_go rfl (s_iload_n rfl) ?_
  refine pe_go rfl (s_ialdN (v := xs (a)) rfl (by omega) (by decide) rfl rfl) ?_
  refine pe_go rfl (s_iload rfl) ?_
  refine pe_go rfl s_isub ?_
  refine pe_go rfl s_i2l ?_
  refine pe_go rfl (s_lstore (lv' := [(8, .long (((xs (a)) - (x)).toInt64)), (0, .ref 1), (1, .int (nI a)), (2, .int (nI b)), (3, .int (nI c)), (4, .int x), (5, .int y), (6, .long z)]) rfl) ?_
  refine pe_go rfl (s_aload_n rfl) ?_
  refine pe_go rfl (s_getf rfl rfl) ?_
  refine pe_go rfl (s_getf rfl rfl) ?_
  refine pe_go rfl (s_iload_n rfl) ?_
  refine pe_go rfl (s_ialdN (v := ys (a)) rfl (by omega) (by decide) rfl rfl) ?_
  refine pe_go rfl (s_iload rfl) ?_
  refine pe_go rfl s_isub ?_
  refine pe_go rfl s_i2l ?_
  refine pe_go rfl (s_lstore (lv' := [(10, .long (((ys (a)) - (y)).toInt64)), (8, .long (((xs (a)) - (x)).toInt64)), (0, .ref 1), (1, .int (nI a)), (2, .int (nI b)), (3, .int (nI c)), (4, .int x), (5, .int y), (6, .long z)]) rfl) ?_
  refine pe_go rfl (s_aload_n rfl) ?_
  refine pe_go rfl (s_getf rfl rfl) ?_
  refine pe_go rfl (s_getf rfl rfl) ?_
  refine pe_go rfl (s_iload_n rfl) ?_
  refine pe_go rfl (s_ialdN (v := xs (b)) rfl (by omega) (by decide) rfl rfl) ?_
  refine pe_go rfl (s_iload rfl) ?_
  refine pe_go rfl s_isub ?_
  refine pe_go rfl s_i2l ?_
  refine pe_go rfl (s_lstore (lv' := [(12, .long (((xs (b)) - (x)).toInt64)), (10, .long (((ys (a)) - (y)).toInt64)), (8, .long (((xs (a)) - (x)).toInt64)), (0, .ref 1), (1, .int (nI a)), (2, .int (nI b)), (3, .int (nI c)), (4, .int x), (5, .int y), (6, .long z)]) rfl) ?_
  refine pe_go rfl (s_aload_n rfl) ?_
  refine pe_go rfl (s_getf rfl rfl) ?_
  refine pe_go rfl (s_getf rfl rfl) ?_
  refine pe_go rfl (s_iload_n rfl) ?_
  refine pe_go rfl (s_ialdN (v := ys (b)) rfl (by omega) (by decide) rfl rfl) ?_
  refine pe_go rfl (s_iload rfl) ?_
  refine pe_go rfl s_isub ?_
  refine pe_go rfl s_i2l ?_
  refine pe_go rfl (s_lstore (lv' := [(14, .long (((ys (b)) - (y)).toInt64)), (12, .long (((xs (b)) - (x)).toInt64)), (10, .long (((ys (a)) - (y)).toInt64)), (8, .long (((xs (a)) - (x)).toInt64)), (0, .ref 1), (1, .int (nI a)), (2, .int (nI b)), (3, .int (nI c)), (4, .int x), (5, .int y), (6, .long z)]) rfl) ?_
  refine pe_go rfl (s_aload_n rfl) ?_
  refine pe_go rfl (s_getf rfl rfl) ?_
  refine pe_go rfl (s_getf rfl rfl) ?_
  refine pe_go rfl (s_iload_n rfl) ?_
  refine pe_go rfl (s_ialdN (v := xs (c)) rfl (by omega) (by decide) rfl rfl) ?_
  refine pe_go rfl (s_iload rfl) ?_
  refine pe_go rfl s_isub ?_
  refine pe_go rfl s_i2l ?_
  refine pe_go rfl (s_lstore (lv' := [(16, .long (((xs (c)) - (x)).toInt64)), (14, .long (((ys (b)) - (y)).toInt64)), (12, .long (((xs (b)) - (x)).toInt64)), (10, .long (((ys (a)) - (y)).toInt64)), (8, .long (((xs (a)) - (x)).toInt64)), (0, .ref 1), (1, .int (nI a)), (2, .int (nI b)), (3, .int (nI c)), (4, .int x), (5, .int y), (6, .long z)]) rfl) ?_
  refine pe_go rfl (s_aload_n rfl) ?_
  refine pe_go rfl (s_getf rfl rfl) ?_
  refine pe_go rfl (s_getf rfl rfl) ?_
  refine pe_go rfl (s_iload_n rfl) ?_
  refine pe_go rfl (s_ialdN (v := ys (c)) rfl (by omega) (by decide) rfl rfl) ?_
  refine pe_go rfl (s_iload rfl) ?_
  refine pe_go rfl s_isub ?_
  refine pe_go rfl s_i2l ?_
  refine pe_go rfl (s_lstore (lv' := [(18, .long (((ys (c)) - (y)).toInt64)), (16, .long (((xs (c)) - (x)).toInt64)), (14, .long (((ys (b)) - (y)).toInt64)), (12, .long (((xs (b)) - (x)).toInt64)), (10, .long (((ys (a)) - (y)).toInt64)), (8, .long (((xs (a)) - (x)).toInt64)), (0, .ref 1), (1, .int (nI a)), (2, .int (nI b)), (3, .int (nI c)), (4, .int x), (5, .int y), (6, .long z)]) rfl) ?_
  refine pe_go rfl (s_aload_n rfl) ?_
  refine pe_go rfl (s_getf rfl rfl) ?_
  refine pe_go rfl (s_iload_n rfl) ?_
  refine pe_go rfl (s_laldN (v := li (a)) rfl (by omega) (by decide) rfl) ?_
  refine pe_go rfl (s_lload rfl) ?_
  refine pe_go rfl s_lsub ?_
  refine pe_go rfl (s_lload rfl) ?_
  refine pe_go rfl (s_lload rfl) ?_
  refine pe_go rfl s_lmul ?_
  refine pe_go rfl (s_lload rfl) ?_
  refine pe_go rfl (s_lload rfl) ?_
  refine pe_go rfl s_lmul ?_
  refine pe_go rfl s_lsub ?_
  refine pe_go rfl s_lmul ?_
  refine pe_go rfl (s_aload_n rfl) ?_
  refine pe_go rfl (s_getf rfl rfl) ?_
  refine pe_go rfl (s_iload_n rfl) ?_
  refine pe_go rfl (s_laldN (v := li (b)) rfl (by omega) (by decide) rfl) ?_
  refine pe_go rfl (s_lload rfl) ?_
  refine pe_go rfl s_lsub ?_
  refine pe_go rfl (s_lload rfl) ?_
  refine pe_go rfl (s_lload rfl) ?_
  refine pe_go rfl s_lmul ?_
  refine pe_go rfl (s_lload rfl) ?_
  refine pe_go rfl (s_lload rfl) ?_
  refine pe_go rfl s_lmul ?_
  refine pe_go rfl s_lsub ?_
  refine pe_go rfl s_lmul ?_
  refine pe_go rfl s_ladd ?_
  refine pe_go rfl (s_aload_n rfl) ?_
  refine pe_go rfl (s_getf rfl rfl) ?_
  refine pe_go rfl (s_iload_n rfl) ?_
  refine pe_go rfl (s_laldN (v := li (c)) rfl (by omega) (by decide) rfl) ?_
  refine pe_go rfl (s_lload rfl) ?_
  refine pe_go rfl s_lsub ?_
  refine pe_go rfl (s_lload rfl) ?_
  refine pe_go rfl (s_lload rfl) ?_
  refine pe_go rfl s_lmul ?_
  refine pe_go rfl (s_lload rfl) ?_
  refine pe_go rfl (s_lload rfl) ?_
  refine pe_go rfl s_lmul ?_
  refine pe_go rfl s_lsub ?_
  refine pe_go rfl s_lmul ?_
  refine pe_go rfl s_ladd ?_
  exact pe_ret rfl s_retL ⟨rfl, _, rfl⟩
theorem m_ahead {xs : Nat → Int32} {ys : Nat → Int32} {hs : Nat → Int32} {fx : Nat → Int64} {hx : Nat → Int32} {hy : Nat → Int32} {th : Int64} {hn : Int32} {g : Int32} {ap : Nat → Int32} {ow : Nat → Int32} {co : Nat → Int32} {en : Nat → Int32} {ne : Nat → Int64} {rd : Nat → Int32} {tn : Int32} {ec : Int32} {li : Nat → Int64} {wa : Nat → Int64} {qu : Nat → Int32} {qn : Int32} {Q : pW} {a b : Nat} (ha : a < 40) (hb : b < 40) : qC 98 [.ref 2, .int (nI a), .int (nI b)] (cM xs ys hs fx hx hy th hn g ap ow co en ne rd tn ec li wa qu qn Q) (fun r w1 => w1 = (cM xs ys hs fx hx hy th hn g ap ow co en ne rd tn ec li wa qu qn Q) ∧ ∃ z : Nat, z < 40 ∧ r = some (.int (nI z))) := by
  refine pc_run rfl ?_
  refine pe_go rfl (s_aload_n rfl) ?_
  refine pe_go rfl (s_getf rfl rfl) ?_
  refine pe_go rfl (s_iload_n rfl) ?_
  refine pe_go rfl (s_ialdN (v := xs (a)) rfl (by omega) (by decide) rfl rfl) ?_
  refine pe_go rfl (s_aload_n rfl) ?_
  refine pe_go rfl (s_getf rfl rfl) ?_
  refine pe_go rfl (s_iload_n rfl) ?_
  refine pe_go rfl (s_ialdN (v := xs (b)) rfl (by omega) (by decide) rfl rfl) ?_
  by_cases d1 : xs (a) = xs (b)
  · skip
    refine pe_go rfl (s_icmp_eq_t d1) ?_
    refine pe_go rfl (s_aload_n rfl) ?_
    refine pe_go rfl (s_getf rfl rfl) ?_
    refine pe_go rfl (s_iload_n rfl) ?_
    refine pe_go rfl (s_ialdN (v := ys (a)) rfl (by omega) (by decide) rfl rfl) ?_
    refine pe_go rfl (s_aload_n rfl) ?_
    refine pe_go rfl (s_getf rfl rfl) ?_
    refine pe_go rfl (s_iload_n rfl) ?_
    refine pe_go rfl (s_ialdN (v := ys (b)) rfl (by omega) (by decide) rfl rfl) ?_
    by_cases d2 : ys (b) < ys (a)
    · skip
      refine pe_go rfl (s_icmp_gt_t d2) ?_
      refine pe_go rfl (s_iload_n rfl) ?_
      exact pe_ret rfl s_retI ⟨rfl, b, by omega, rfl⟩
    · skip
      refine pe_go rfl (s_icmp_gt_f d2) ?_
      refine pe_go rfl (s_iload_n rfl) ?_
      refine pe_go rfl s_goto ?_
      exact pe_ret rfl s_retI ⟨rfl, a, by omega, rfl⟩
  · skip
    refine pe_go rfl (s_icmp_eq_f d1) ?_
    refine pe_go rfl (s_aload_n rfl) ?_
    refine pe_go rfl (s_getf rfl rfl) ?_
    refine pe_go rfl (s_iload_n rfl) ?_
    refine pe_go rfl (s_ialdN (v := xs (a)) rfl (by omega) (by decide) rfl rfl) ?_
    refine pe_go rfl (s_aload_n rfl) ?_
    refine pe_go rfl (s_getf rfl rfl) ?_
    refine pe_go rfl (s_iload_n rfl) ?_
    refine pe_go rfl (s_ialdN (v := xs (b)) rfl (by omega) (by decide) rfl rfl) ?_
    by_cases d3 : xs (b) ≤ xs (a)
    · skip
      refine pe_go rfl (s_icmp_ge_t d3) ?_
      refine pe_go rfl (s_iload_n rfl) ?_
      exact pe_ret rfl s_retI ⟨rfl, b, by omega, rfl⟩
    · skip
      refine pe_go rfl (s_icmp_ge_f d3) ?_
      refine pe_go rfl (s_iload_n rfl) ?_
      refine pe_go rfl s_goto ?_
      exact pe_ret rfl s_retI ⟨rfl, a, by omega, rfl⟩
theorem m_allowed {xs : Nat → Int32} {ys : Nat → Int32} {hs : Nat → Int32} {fx : Nat → Int64} {hx : Nat → Int32} {hy : Nat → Int32} {th : Int64} {hn : Int32} {g : Int32} {ap : Nat → Int32} {ow : Nat → Int32} {co : Nat → Int32} {en : Nat → Int32} {ne : Nat → Int64} {rd : Nat → Int32} {tn : Int32} {ec : Int32} {li : Nat → Int64} {wa : Nat → Int64} {qu : Nat → Int32} {qn : Int32} {Q : pW} (hap : okAp ap) {a b : Nat} (ha : a < 40) (hb : b < 40) : qC 26 [.ref 1, .int (nI a), .int (nI b)] (cM xs ys hs fx hx hy th hn g ap ow co en ne rd tn ec li wa qu qn Q) (fun r w1 => w1 = (cM xs ys hs fx hx hy th hn g ap ow co en ne rd tn ec li wa qu qn Q) ∧ ∃ b : Bool, r = some (.int (bI b))) := by
  refine pc_run rfl ?_
  refine pe_go rfl (s_aload_n rfl) ?_
  refine pe_go rfl (s_getf rfl rfl) ?_
  refine pe_go rfl (s_iload_n rfl) ?_
  refine pe_go rfl s_bipush ?_
  refine pe_go rfl (s_imulN (c := a * 40) rfl) ?_
  refine pe_go rfl (s_iload_n rfl) ?_
  refine pe_go rfl (s_iaddN (c := (a * 40) + b) rfl) ?_
  rcases hap ((a * 40) + b) (by omega) with x1 | ⟨k1, y1, x1⟩
  · skip
    refine pe_go rfl (s_ialdN (v := nI 4294967295) rfl (by omega) (by decide) rfl x1) ?_
    refine pe_go rfl (s_istore_n (lv' := [(3, .int (nI 4294967295)), (0, .ref 1), (1, .int (nI a)), (2, .int (nI b))]) rfl) ?_
    refine pe_go rfl (s_aload_n rfl) ?_
    refine pe_go rfl (s_getf rfl rfl) ?_
    refine pe_go rfl (s_iload_n rfl) ?_
    refine pe_go rfl s_bipush ?_
    refine pe_go rfl (s_imulN (c := b * 40) rfl) ?_
    refine pe_go rfl (s_iload_n rfl) ?_
    refine pe_go rfl (s_iaddN (c := (b * 40) + a) rfl) ?_
    rcases hap ((b * 40) + a) (by omega) with x2 | ⟨k2, y2, x2⟩
    · skip
      refine pe_go rfl (s_ialdN (v := nI 4294967295) rfl (by omega) (by decide) rfl x2) ?_
      refine pe_go rfl (s_istore (lv' := [(4, .int (nI 4294967295)), (3, .int (nI 4294967295)), (0, .ref 1), (1, .int (nI a)), (2, .int (nI b))]) rfl) ?_
      refine pe_go rfl (s_iload_n rfl) ?_
      refine pe_go rfl s_iconst ?_
      refine pe_go rfl (s_icmp_eq_t rfl) ?_
      refine pe_go rfl s_iconst ?_
      exact pe_ret rfl s_ret1 ⟨rfl, true, rfl⟩
    · skip
      refine pe_go rfl (s_ialdN (v := nI k2) rfl (by omega) (by decide) rfl x2) ?_
      refine pe_go rfl (s_istore (lv' := [(4, .int (nI k2)), (3, .int (nI 4294967295)), (0, .ref 1), (1, .int (nI a)), (2, .int (nI b))]) rfl) ?_
      refine pe_go rfl (s_iload_n rfl) ?_
      refine pe_go rfl s_iconst ?_
      refine pe_go rfl (s_icmp_eq_t rfl) ?_
      refine pe_go rfl s_iconst ?_
      exact pe_ret rfl s_ret1 ⟨rfl, true, rfl⟩
  · skip
    refine pe_go rfl (s_ialdN (v := nI k1) rfl (by omega) (by decide) rfl x1) ?_
    refine pe_go rfl (s_istore_n (lv' := [(3, .int (nI k1)), (0, .ref 1), (1, .int (nI a)), (2, .int (nI b))]) rfl) ?_
    refine pe_go rfl (s_aload_n rfl) ?_
    refine pe_go rfl (s_getf rfl rfl) ?_
    refine pe_go rfl (s_iload_n rfl) ?_
    refine pe_go rfl s_bipush ?_
    refine pe_go rfl (s_imulN (c := b * 40) rfl) ?_
    refine pe_go rfl (s_iload_n rfl) ?_
    refine pe_go rfl (s_iaddN (c := (b * 40) + a) rfl) ?_
    rcases hap ((b * 40) + a) (by omega) with x3 | ⟨k3, y3, x3⟩
    · skip
      refine pe_go rfl (s_ialdN (v := nI 4294967295) rfl (by omega) (by decide) rfl x3) ?_
      refine pe_go rfl (s_istore (lv' := [(4, .int (nI 4294967295)), (3, .int (nI k1)), (0, .ref 1), (1, .int (nI a)), (2, .int (nI b))]) rfl) ?_
      refine pe_go rfl (s_iload_n rfl) ?_
      refine pe_go rfl s_iconst ?_
      refine pe_go rfl (s_icmp_eq_f (nI_none (k := k1) (by omega))) ?_
      refine pe_go rfl (s_iload rfl) ?_
      refine pe_go rfl s_iconst ?_
      refine pe_go rfl (s_icmp_ne_f (fun e => e rfl)) ?_
      refine pe_go rfl s_iconst ?_
      exact pe_ret rfl s_ret1 ⟨rfl, true, rfl⟩
    · skip
      refine pe_go rfl (s_ialdN (v := nI k3) rfl (by omega) (by decide) rfl x3) ?_
      refine pe_go rfl (s_istore (lv' := [(4, .int (nI k3)), (3, .int (nI k1)), (0, .ref 1), (1, .int (nI a)), (2, .int (nI b))]) rfl) ?_
      refine pe_go rfl (s_iload_n rfl) ?_
      refine pe_go rfl s_iconst ?_
      refine pe_go rfl (s_icmp_eq_f (nI_none (k := k1) (by omega))) ?_
      refine pe_go rfl (s_iload rfl) ?_
      refine pe_go rfl s_iconst ?_
      refine pe_go rfl (s_icmp_ne_t (nI_none (k := k3) (by omega))) ?_
      refine pe_go rfl (s_aload_n rfl) ?_
      refine pe_go rfl (s_iload_n rfl) ?_
      refine pe_go rfl (s_iload_n rfl) ?_
      refine pe_go rfl (s_iload_n rfl) ?_
      refine pe_go rfl (s_aload_n rfl) ?_
      refine pe_go rfl (s_getf rfl rfl) ?_
      refine pe_go rfl (s_getf rfl rfl) ?_
      refine pe_go rfl (s_iload rfl) ?_
      refine pe_go rfl (s_ialdN (v := xs (k3)) rfl (by omega) (by decide) rfl rfl) ?_
      refine pe_go rfl (s_aload_n rfl) ?_
      refine pe_go rfl (s_getf rfl rfl) ?_
      refine pe_go rfl (s_getf rfl rfl) ?_
      refine pe_go rfl (s_iload rfl) ?_
      refine pe_go rfl (s_ialdN (v := ys (k3)) rfl (by omega) (by decide) rfl rfl) ?_
      refine pe_go rfl (s_aload_n rfl) ?_
      refine pe_go rfl (s_getf rfl rfl) ?_
      refine pe_go rfl (s_iload rfl) ?_
      refine pe_go rfl (s_laldN (v := li (k3)) rfl (by omega) (by decide) rfl) ?_
      refine pe_callE rfl (s_invV rfl rfl rfl rfl) (m_under (by omega) (by omega) (by omega)) ?_
      rintro _ _ ⟨rfl, v4, rfl⟩
      refine pe_go rfl (s_lstore (lv' := [(5, .long v4), (4, .int (nI k3)), (3, .int (nI k1)), (0, .ref 1), (1, .int (nI a)), (2, .int (nI b))]) rfl) ?_
      refine pe_go rfl (s_lload rfl) ?_
      refine pe_go rfl s_lconst0 ?_
      refine pe_go rfl s_lcmp ?_
      by_cases d5 : lg_cmp (v4) ((0 : Int64)) = 0
      · skip
        refine pe_go rfl (s_if_eq_t d5) ?_
        refine pe_go rfl (s_aload_n rfl) ?_
        refine pe_go rfl (s_getf rfl rfl) ?_
        refine pe_go rfl (s_aload_n rfl) ?_
        refine pe_go rfl (s_getf rfl rfl) ?_
        refine pe_go rfl (s_iload_n rfl) ?_
        refine pe_go rfl (s_iload_n rfl) ?_
        refine pe_callE rfl (s_invV rfl rfl rfl rfl) (m_ahead (by omega) (by omega)) ?_
        rintro _ _ ⟨rfl, z6, hz6, rfl⟩
        refine pe_go rfl (s_aload_n rfl) ?_
        refine pe_go rfl (s_getf rfl rfl) ?_
        refine pe_go rfl (s_iload_n rfl) ?_
        refine pe_go rfl (s_iload rfl) ?_
        refine pe_callE rfl (s_invV rfl rfl rfl rfl) (m_ahead (by omega) (by omega)) ?_
        rintro _ _ ⟨rfl, z7, hz7, rfl⟩
        refine pe_callE rfl (s_invV rfl rfl rfl rfl) (m_ahead (by omega) (by omega)) ?_
        rintro _ _ ⟨rfl, z8, hz8, rfl⟩
        refine pe_go rfl (s_istore (lv' := [(7, .int (nI z8)), (5, .long v4), (4, .int (nI k3)), (3, .int (nI k1)), (0, .ref 1), (1, .int (nI a)), (2, .int (nI b))]) rfl) ?_
        refine pe_go rfl (s_iload rfl) ?_
        refine pe_go rfl (s_iload_n rfl) ?_
        by_cases c9 : (z8) = (a)
        · skip
          refine pe_go rfl (s_icmp_eq_t (congrArg nI (by omega))) ?_
          refine pe_go rfl s_iconst ?_
          refine pe_go rfl s_goto ?_
          exact pe_ret rfl s_ret1 ⟨rfl, true, rfl⟩
        · skip
          refine pe_go rfl (s_icmp_eq_f (fun e => absurd ((nI_eq (by omega) (by omega)).mp e) (by omega))) ?_
          refine pe_go rfl (s_iload rfl) ?_
          refine pe_go rfl (s_iload_n rfl) ?_
          by_cases c10 : (z8) = (b)
          · skip
            refine pe_go rfl (s_icmp_ne_f (fun e => e (congrArg nI (by omega)))) ?_
            refine pe_go rfl s_iconst ?_
            refine pe_go rfl s_goto ?_
            exact pe_ret rfl s_ret1 ⟨rfl, true, rfl⟩
          · skip
            refine pe_go rfl (s_icmp_ne_t (fun e => absurd ((nI_eq (by omega) (by omega)).mp e) (by omega))) ?_
            refine pe_go rfl s_iconst ?_
            exact pe_ret rfl s_ret0 ⟨rfl, false, rfl⟩
      · skip
        refine pe_go rfl (s_if_eq_f d5) ?_
        refine pe_go rfl (s_lload rfl) ?_
        refine pe_go rfl s_lconst0 ?_
        refine pe_go rfl s_lcmp ?_
        by_cases d11 : 0 ≤ lg_cmp (v4) ((0 : Int64))
        · skip
          refine pe_go rfl (s_if_ge_t d11) ?_
          refine pe_go rfl s_iconst ?_
          exact pe_ret rfl s_ret0 ⟨rfl, false, rfl⟩
        · skip
          refine pe_go rfl (s_if_ge_f d11) ?_
          refine pe_go rfl s_iconst ?_
          refine pe_go rfl s_goto ?_
          exact pe_ret rfl s_ret1 ⟨rfl, true, rfl⟩
theorem m_flip {xs ys hx hy rd : Nat → Int32} {th : Int64} {hn g : Int32} {Q : pW} {w : pW} (h : cK xs ys hx hy th hn g rd Q w) {a b : Nat} (ha : a < 40) (hb : b < 40) : qC 24 [.ref 1, .int (nI a), .int (nI b)] w (cN xs ys hx hy th hn g rd Q) := by
  obtain ⟨hs1, fx1, ap1, ow1, co1, en1, ne1, t1, e1, li1, wa1, qu1, n1, hap1, hco1, hqu1, ht1, he1, hn1, rfl⟩ := h
  refine pc_run rfl ?_
  refine pe_go rfl (s_aload_n rfl) ?_
  refine pe_go rfl (s_getf rfl rfl) ?_
  refine pe_go rfl (s_iload_n rfl) ?_
  refine pe_go rfl s_bipush ?_
  refine pe_go rfl (s_imulN (c := a * 40) rfl) ?_
  refine pe_go rfl (s_iload_n rfl) ?_
  refine pe_go rfl (s_iaddN (c := (a * 40) + b) rfl) ?_
  rcases hap1 ((a * 40) + b) (by omega) with x2 | ⟨k2, y2, x2⟩
  · skip
    refine pe_go rfl (s_ialdN (v := nI 4294967295) rfl (by omega) (by decide) rfl x2) ?_
    refine pe_go rfl (s_istore_n (lv' := [(3, .int (nI 4294967295)), (0, .ref 1), (1, .int (nI a)), (2, .int (nI b))]) rfl) ?_
    refine pe_go rfl (s_aload_n rfl) ?_
    refine pe_go rfl (s_getf rfl rfl) ?_
    refine pe_go rfl (s_iload_n rfl) ?_
    refine pe_go rfl s_bipush ?_
    refine pe_go rfl (s_imulN (c := b * 40) rfl) ?_
    refine pe_go rfl (s_iload_n rfl) ?_
    refine pe_go rfl (s_iaddN (c := (b * 40) + a) rfl) ?_
    rcases hap1 ((b * 40) + a) (by omega) with x3 | ⟨k3, y3, x3⟩
    · skip
      refine pe_go rfl (s_ialdN (v := nI 4294967295) rfl (by omega) (by decide) rfl x3) ?_
      refine pe_go rfl (s_istore (lv' := [(4, .int (nI 4294967295)), (3, .int (nI 4294967295)), (0, .ref 1), (1, .int (nI a)), (2, .int (nI b))]) rfl) ?_
      refine pe_go rfl (s_iload_n rfl) ?_
      refine pe_go rfl s_iconst ?_
      refine pe_go rfl (s_icmp_eq_t rfl) ?_
      exact pe_ret rfl rfl ⟨rfl, ⟨_, _, _, _, _, _, _, _, _, _, _, _, _, hap1, hco1, hqu1, (by omega), (by omega), (by omega), rfl⟩⟩
    · skip
      refine pe_go rfl (s_ialdN (v := nI k3) rfl (by omega) (by decide) rfl x3) ?_
      refine pe_go rfl (s_istore (lv' := [(4, .int (nI k3)), (3, .int (nI 4294967295)), (0, .ref 1), (1, .int (nI a)), (2, .int (nI b))]) rfl) ?_
      refine pe_go rfl (s_iload_n rfl) ?_
      refine pe_go rfl s_iconst ?_
      refine pe_go rfl (s_icmp_eq_t rfl) ?_
      exact pe_ret rfl rfl ⟨rfl, ⟨_, _, _, _, _, _, _, _, _, _, _, _, _, hap1, hco1, hqu1, (by omega), (by omega), (by omega), rfl⟩⟩
  · skip
    refine pe_go rfl (s_ialdN (v := nI k2) rfl (by omega) (by decide) rfl x2) ?_
    refine pe_go rfl (s_istore_n (lv' := [(3, .int (nI k2)), (0, .ref 1), (1, .int (nI a)), (2, .int (nI b))]) rfl) ?_
    refine pe_go rfl (s_aload_n rfl) ?_
    refine pe_go rfl (s_getf rfl rfl) ?_
    refine pe_go rfl (s_iload_n rfl) ?_
    refine pe_go rfl s_bipush ?_
    refine pe_go rfl (s_imulN (c := b * 40) rfl) ?_
    refine pe_go rfl (s_iload_n rfl) ?_
    refine pe_go rfl (s_iaddN (c := (b * 40) + a) rfl) ?_
    rcases hap1 ((b * 40) + a) (by omega) with x4 | ⟨k4, y4, x4⟩
    · skip
      refine pe_go rfl (s_ialdN (v := nI 4294967295) rfl (by omega) (by decide) rfl x4) ?_
      refine pe_go rfl (s_istore (lv' := [(4, .int (nI 4294967295)), (3, .int (nI k2)), (0, .ref 1), (1, .int (nI a)), (2, .int (nI b))]) rfl) ?_
      refine pe_go rfl (s_iload_n rfl) ?_
      refine pe_go rfl s_iconst ?_
      refine pe_go rfl (s_icmp_eq_f (nI_none (k := k2) (by omega))) ?_
      refine pe_go rfl (s_iload rfl) ?_
      refine pe_go rfl s_iconst ?_
      refine pe_go rfl (s_icmp_ne_f (fun e => e rfl)) ?_
      exact pe_ret rfl rfl ⟨rfl, ⟨_, _, _, _, _, _, _, _, _, _, _, _, _, hap1, hco1, hqu1, (by omega), (by omega), (by omega), rfl⟩⟩
    · skip
      refine pe_go rfl (s_ialdN (v := nI k4) rfl (by omega) (by decide) rfl x4) ?_
      refine pe_go rfl (s_istore (lv' := [(4, .int (nI k4)), (3, .int (nI k2)), (0, .ref 1), (1, .int (nI a)), (2, .int (nI b))]) rfl) ?_
      refine pe_go rfl (s_iload_n rfl) ?_
      refine pe_go rfl s_iconst ?_
      refine pe_go rfl (s_icmp_eq_f (nI_none (k := k2) (by omega))) ?_
      refine pe_go rfl (s_iload rfl) ?_
      refine pe_go rfl s_iconst ?_
      refine pe_go rfl (s_icmp_ne_t (nI_none (k := k4) (by omega))) ?_
      refine pe_go rfl (s_aload_n rfl) ?_
      refine pe_go rfl (s_getf rfl rfl) ?_
      refine pe_go rfl (s_iload_n rfl) ?_
      refine pe_go rfl s_bipush ?_
      refine pe_go rfl (s_imulN (c := a * 40) rfl) ?_
      refine pe_go rfl (s_iload_n rfl) ?_
      refine pe_go rfl (s_iaddN (c := (a * 40) + b) rfl) ?_
      refine pe_go rfl s_iconst ?_
      refine pe_go rfl (s_iastN rfl (by omega) (by decide) (w' := cM xs ys hs1 fx1 hx hy th hn g (upd ap1 ((a * 40) + b) (nI 4294967295)) ow1 co1 en1 ne1 rd (nI t1) (nI e1) li1 wa1 qu1 (nI n1) Q) rfl) ?_
      refine pe_go rfl (s_aload_n rfl) ?_
      refine pe_go rfl (s_getf rfl rfl) ?_
      refine pe_go rfl (s_iload_n rfl) ?_
      refine pe_go rfl s_bipush ?_
      refine pe_go rfl (s_imulN (c := b * 40) rfl) ?_
      refine pe_go rfl (s_iload_n rfl) ?_
      refine pe_go rfl (s_iaddN (c := (b * 40) + a) rfl) ?_
      refine pe_go rfl s_iconst ?_
      refine pe_go rfl (s_iastN rfl (by omega) (by decide) (w' := cM xs ys hs1 fx1 hx hy th hn g (upd (upd ap1 ((a * 40) + b) (nI 4294967295)) ((b * 40) + a) (nI 4294967295)) ow1 co1 en1 ne1 rd (nI t1) (nI e1) li1 wa1 qu1 (nI n1) Q) rfl) ?_
      refine pe_go rfl (s_aload_n rfl) ?_
      refine pe_go rfl (s_iload_n rfl) ?_
      refine pe_go rfl (s_iload rfl) ?_
      refine pe_go rfl (s_iload_n rfl) ?_
      refine pe_callE rfl (s_invV rfl rfl rfl rfl) (m_put ⟨_, _, _, _, _, _, _, _, _, _, _, _, _, (okAp_n (okAp_n hap1)), hco1, hqu1, (by omega), (by omega), (by omega), rfl⟩ (by omega) (by omega) (by omega)) ?_
      rintro _ _ ⟨rfl, hs5, fx5, ap5, ow5, co5, en5, ne5, t5, e5, li5, wa5, qu5, n5, hap5, hco5, hqu5, ht5, he5, hn5, rfl⟩
      refine pe_go rfl (s_aload_n rfl) ?_
      refine pe_go rfl (s_iload rfl) ?_
      refine pe_go rfl (s_iload_n rfl) ?_
      refine pe_go rfl (s_iload_n rfl) ?_
      refine pe_callE rfl (s_invV rfl rfl rfl rfl) (m_put ⟨_, _, _, _, _, _, _, _, _, _, _, _, _, hap5, hco5, hqu5, (by omega), (by omega), (by omega), rfl⟩ (by omega) (by omega) (by omega)) ?_
      rintro _ _ ⟨rfl, hs6, fx6, ap6, ow6, co6, en6, ne6, t6, e6, li6, wa6, qu6, n6, hap6, hco6, hqu6, ht6, he6, hn6, rfl⟩
      exact pe_ret rfl rfl ⟨rfl, ⟨_, _, _, _, _, _, _, _, _, _, _, _, _, hap6, hco6, hqu6, (by omega), (by omega), (by omega), rfl⟩⟩
theorem l_settle {xs ys hx hy rd : Nat → Int32} {th : Int64} {hn g : Int32} {Q : pW} : ∀ (m k : Nat), k + m = 1000000 → ∀ {w : pW}, cK xs ys hx hy th hn g rd Q w → ∀ {lv : pLv}, lvLe [(1, .int (nI k)), (0, .ref 1)] lv → qE 23 (6, lv, [], w) (cN xs ys hx hy th hn g rd Q) := by
  intro m
  induction m with
  | zero =>
    intro k hk w h lv hl
    obtain rfl : k = 1000000 := by omega
    refine pe_less hl ?_
    obtain ⟨hs1, fx1, ap1, ow1, co1, en1, ne1, t1, e1, li1, wa1, qu1, n1, hap1, hco1, hqu1, ht1, he1, hn1, rfl⟩ := h
    refine pe_go rfl (s_iload_n rfl) ?_
    refine pe_go rfl s_ldcN ?_
    refine pe_go rfl (s_icmp_ge_t (Int32.le_refl _)) ?_
    refine pe_go rfl (s_aload_n rfl) ?_
    refine pe_callE rfl (s_invV rfl rfl rfl rfl) (m_list ⟨_, _, _, _, _, _, _, _, _, _, _, _, _, hap1, hco1, hqu1, (by omega), (by omega), (by omega), rfl⟩) ?_
    rintro _ _ ⟨rfl, hs2, fx2, ap2, ow2, co2, en2, ne2, t2, e2, li2, wa2, qu2, n2, hap2, hco2, hqu2, ht2, he2, hn2, rfl⟩
    exact pe_ret rfl rfl ⟨rfl, ⟨_, _, _, _, _, _, _, _, _, _, _, _, _, hap2, hco2, hqu2, (by omega), (by omega), (by omega), rfl⟩⟩
  | succ m ih =>
    intro k hk w h lv hl
    refine pe_less hl ?_
    obtain ⟨hs1, fx1, ap1, ow1, co1, en1, ne1, t1, e1, li1, wa1, qu1, n1, hap1, hco1, hqu1, ht1, he1, hn1, rfl⟩ := h
    refine pe_go rfl (s_iload_n rfl) ?_
    refine pe_go rfl s_ldcN ?_
    refine pe_go rfl (s_icmp_ge_f (fun e => absurd ((nI_leI (by omega) (by omega)).mp e) (by omega))) ?_
    refine pe_go rfl (s_aload_n rfl) ?_
    refine pe_go rfl (s_getf rfl rfl) ?_
    by_cases c2 : (n1) ≤ (0)
    · skip
      refine pe_go rfl (s_if_le_t ((nI_leI (b := 0) (by omega) (by omega)).mpr (by omega))) ?_
      refine pe_go rfl (s_aload_n rfl) ?_
      refine pe_callE rfl (s_invV rfl rfl rfl rfl) (m_list ⟨_, _, _, _, _, _, _, _, _, _, _, _, _, hap1, hco1, hqu1, (by omega), (by omega), (by omega), rfl⟩) ?_
      rintro _ _ ⟨rfl, hs3, fx3, ap3, ow3, co3, en3, ne3, t3, e3, li3, wa3, qu3, n3, hap3, hco3, hqu3, ht3, he3, hn3, rfl⟩
      exact pe_ret rfl rfl ⟨rfl, ⟨_, _, _, _, _, _, _, _, _, _, _, _, _, hap3, hco3, hqu3, (by omega), (by omega), (by omega), rfl⟩⟩
    · skip
      refine pe_go rfl (s_if_le_f (fun e => absurd ((nI_leI (b := 0) (by omega) (by omega)).mp e) (by omega))) ?_
      refine pe_go rfl (s_aload_n rfl) ?_
      refine pe_go rfl (s_dup rfl) ?_
      refine pe_go rfl (s_getf rfl rfl) ?_
      refine pe_go rfl s_iconst ?_
      refine pe_go rfl (s_isubN (c := n1 - 1) (by omega) rfl) ?_
      refine pe_go rfl (s_putfN rfl (Nat.le_of_ble_eq_true rfl) rfl (w' := cM xs ys hs1 fx1 hx hy th hn g ap1 ow1 co1 en1 ne1 rd (nI t1) (nI e1) li1 wa1 qu1 (nI (n1 - 1)) Q) rfl) ?_
      refine pe_go rfl (s_aload_n rfl) ?_
      refine pe_go rfl (s_getf rfl rfl) ?_
      refine pe_go rfl (s_aload_n rfl) ?_
      refine pe_go rfl (s_getf rfl rfl) ?_
      obtain ⟨k4, y4, x4⟩ := hqu1 (n1 - 1) (by omega)
      refine pe_go rfl (s_ialdN (v := nI k4) rfl (by omega) (by decide) rfl x4) ?_
      refine pe_go rfl s_bipush ?_
      refine pe_go rfl (s_idivN (c := k4 / 40) (by omega) (by omega) (by omega) rfl) ?_
      refine pe_go rfl (s_istore_n (lv' := [(2, .int (nI (k4 / 40))), (1, .int (nI k)), (0, .ref 1)]) rfl) ?_
      refine pe_go rfl (s_aload_n rfl) ?_
      refine pe_go rfl (s_getf rfl rfl) ?_
      refine pe_go rfl (s_aload_n rfl) ?_
      refine pe_go rfl (s_getf rfl rfl) ?_
      obtain ⟨k5, y5, x5⟩ := hqu1 (n1 - 1) (by omega)
      refine pe_go rfl (s_ialdN (v := nI k5) rfl (by omega) (by decide) rfl x5) ?_
      refine pe_go rfl s_bipush ?_
      refine pe_go rfl (s_iremN (c := k5 % 40) (by omega) (by omega) (by omega) rfl) ?_
      refine pe_go rfl (s_istore_n (lv' := [(3, .int (nI (k5 % 40))), (2, .int (nI (k4 / 40))), (1, .int (nI k)), (0, .ref 1)]) rfl) ?_
      refine pe_go rfl (s_aload_n rfl) ?_
      refine pe_go rfl (s_getf rfl rfl) ?_
      refine pe_go rfl (s_iload_n rfl) ?_
      refine pe_go rfl s_dup2i ?_
      refine pe_go rfl (s_laldN (v := wa1 (k4 / 40)) rfl (by omega) (by decide) rfl) ?_
      refine pe_go rfl s_lconst1 ?_
      refine pe_go rfl (s_iload_n rfl) ?_
      refine pe_go rfl s_lshl ?_
      refine pe_go rfl s_ldc2w ?_
      refine pe_go rfl s_lxor ?_
      refine pe_go rfl s_land ?_
      refine pe_go rfl (s_lastN rfl (by omega) (by decide) (w' := cM xs ys hs1 fx1 hx hy th hn g ap1 ow1 co1 en1 ne1 rd (nI t1) (nI e1) li1 (vp_updL wa1 (k4 / 40) ((wa1 (k4 / 40)) &&& ((((1 : Int64)) <<< ((nI (k5 % 40)).toInt64 &&& 63)) ^^^ (Int64.ofNat 18446744073709551615)))) qu1 (nI (n1 - 1)) Q) rfl) ?_
      refine pe_go rfl (s_aload_n rfl) ?_
      refine pe_go rfl (s_iload_n rfl) ?_
      refine pe_go rfl (s_iload_n rfl) ?_
      refine pe_call rfl (s_invV rfl rfl rfl rfl) (c_isInner (by omega) (by omega)) ?_
      cases b6 : inF ap1 (k4 / 40) (k5 % 40)
      · skip
        refine pe_go rfl (s_if_eq_t (by decide)) ?_
        refine pe_go rfl (s_iincN (y := nI (k + 1)) rfl (nI_add _ _) (lv' := [(1, .int (nI (k + 1))), (3, .int (nI (k5 % 40))), (2, .int (nI (k4 / 40))), (0, .ref 1)]) rfl) ?_
        refine pe_go rfl s_goto ?_
        exact ih (k + 1) (by omega) ⟨_, _, _, _, _, _, _, _, _, _, _, _, _, hap1, hco1, hqu1, (by omega), (by omega), (by omega), rfl⟩ (lvLe_of rfl rfl (by repeat' (first | exact (fun _ h => absurd h List.not_mem_nil) | refine List.forall_mem_cons.mpr ⟨rfl, ?_⟩)))
      · skip
        refine pe_go rfl (s_if_eq_f (by decide)) ?_
        refine pe_go rfl (s_aload_n rfl) ?_
        refine pe_go rfl (s_getf rfl rfl) ?_
        refine pe_go rfl (s_iload_n rfl) ?_
        refine pe_go rfl (s_iload_n rfl) ?_
        refine pe_call rfl (s_invV rfl rfl rfl rfl) (c_isBound (by omega) (by omega)) ?_
        cases b7 : bt (fx1 (k4 / 40)) (k5 % 40)
        · skip
          refine pe_go rfl (s_if_ne_f (by decide)) ?_
          refine pe_go rfl (s_aload_n rfl) ?_
          refine pe_go rfl (s_iload_n rfl) ?_
          refine pe_go rfl (s_iload_n rfl) ?_
          refine pe_callE rfl (s_invV rfl rfl rfl rfl) (m_allowed hap1 (by omega) (by omega)) ?_
          rintro _ _ ⟨rfl, b8, rfl⟩
          cases b9 : b8
          · skip
            refine pe_go rfl (s_if_ne_f (by decide)) ?_
            refine pe_go rfl (s_aload_n rfl) ?_
            refine pe_go rfl (s_iload_n rfl) ?_
            refine pe_go rfl (s_iload_n rfl) ?_
            refine pe_callE rfl (s_invV rfl rfl rfl rfl) (m_flip ⟨_, _, _, _, _, _, _, _, _, _, _, _, _, hap1, hco1, hqu1, (by omega), (by omega), (by omega), rfl⟩ (by omega) (by omega)) ?_
            rintro _ _ ⟨rfl, hs10, fx10, ap10, ow10, co10, en10, ne10, t10, e10, li10, wa10, qu10, n10, hap10, hco10, hqu10, ht10, he10, hn10, rfl⟩
            refine pe_go rfl (s_iincN (y := nI (k + 1)) rfl (nI_add _ _) (lv' := [(1, .int (nI (k + 1))), (3, .int (nI (k5 % 40))), (2, .int (nI (k4 / 40))), (0, .ref 1)]) rfl) ?_
            refine pe_go rfl s_goto ?_
            exact ih (k + 1) (by omega) ⟨_, _, _, _, _, _, _, _, _, _, _, _, _, hap10, hco10, hqu10, (by omega), (by omega), (by omega), rfl⟩ (lvLe_of rfl rfl (by repeat' (first | exact (fun _ h => absurd h List.not_mem_nil) | refine List.forall_mem_cons.mpr ⟨rfl, ?_⟩)))
          · skip
            refine pe_go rfl (s_if_ne_t (by decide)) ?_
            refine pe_go rfl (s_iincN (y := nI (k + 1)) rfl (nI_add _ _) (lv' := [(1, .int (nI (k + 1))), (3, .int (nI (k5 % 40))), (2, .int (nI (k4 / 40))), (0, .ref 1)]) rfl) ?_
            refine pe_go rfl s_goto ?_
            exact ih (k + 1) (by omega) ⟨_, _, _, _, _, _, _, _, _, _, _, _, _, hap1, hco1, hqu1, (by omega), (by omega), (by omega), rfl⟩ (lvLe_of rfl rfl (by repeat' (first | exact (fun _ h => absurd h List.not_mem_nil) | refine List.forall_mem_cons.mpr ⟨rfl, ?_⟩)))
        · skip
          refine pe_go rfl (s_if_ne_t (by decide)) ?_
          refine pe_go rfl (s_iincN (y := nI (k + 1)) rfl (nI_add _ _) (lv' := [(1, .int (nI (k + 1))), (3, .int (nI (k5 % 40))), (2, .int (nI (k4 / 40))), (0, .ref 1)]) rfl) ?_
          refine pe_go rfl s_goto ?_
          exact ih (k + 1) (by omega) ⟨_, _, _, _, _, _, _, _, _, _, _, _, _, hap1, hco1, hqu1, (by omega), (by omega), (by omega), rfl⟩ (lvLe_of rfl rfl (by repeat' (first | exact (fun _ h => absurd h List.not_mem_nil) | refine List.forall_mem_cons.mpr ⟨rfl, ?_⟩)))
theorem m_settle {xs ys hx hy rd : Nat → Int32} {th : Int64} {hn g : Int32} {Q : pW} {w : pW} (h : cK xs ys hx hy th hn g rd Q w)  : qC 23 [.ref 1] w (cN xs ys hx hy th hn g rd Q) := by
  obtain ⟨hs1, fx1, ap1, ow1, co1, en1, ne1, t1, e1, li1, wa1, qu1, n1, hap1, hco1, hqu1, ht1, he1, hn1, rfl⟩ := h
  refine pc_run rfl ?_
  refine pe_go rfl (s_aload_n rfl) ?_
  refine pe_callE rfl (s_invV rfl rfl rfl rfl) (m_lift ⟨_, _, _, _, _, _, _, _, _, _, _, _, _, hap1, hco1, hqu1, (by omega), (by omega), (by omega), rfl⟩) ?_
  rintro _ _ ⟨rfl, hs2, fx2, ap2, ow2, co2, en2, ne2, t2, e2, li2, wa2, qu2, n2, hap2, hco2, hqu2, ht2, he2, hn2, rfl⟩
  refine pe_go rfl s_iconst ?_
  refine pe_go rfl (s_istore_n (lv' := [(1, .int (nI 0)), (0, .ref 1)]) rfl) ?_
  exact l_settle 1000000 0 rfl ⟨_, _, _, _, _, _, _, _, _, _, _, _, _, hap2, hco2, hqu2, (by omega), (by omega), (by omega), rfl⟩ (lvLe_of rfl rfl (by repeat' (first | exact (fun _ h => absurd h List.not_mem_nil) | refine List.forall_mem_cons.mpr ⟨rfl, ?_⟩)))
