/-! THE LAW'S SMALL METHODS: the lowest bit that is clear, a triangle as one number. Rows laid by program (wip/p63/wk.py, hw.py, mk98j.py). -/
theorem OB.obj {pre post : pW} {b : Nat} (hb : pre.length = b) {S : St} {L M : List St} {K : St} {w : pW} (hO : OB pre post b S L M K w) : w[b]? = some (.inr (8, [.ref (b + 1), .ref (b + 1 + 17), .ref (b + 1 + 34), .ref (b + 1 + 37), .ref (b + 1 + 40), .ref (b + 1 + 44), .ref (b + 1 + 47), .ref (b + 1 + 50), .ref (b + 1 + 53), .ref (b + 1 + 55)])) := by
  obtain ⟨hS, hLo, hLl, hMo, hMl, pn, pb, rn, rb, cl, kp, kr, rfl⟩ := hO
  exact gO hb
theorem iI_not (x : Int) : iI x ^^^ iI (-1) = iI (-1 - x) := by
  have e : iI (-1) = -1 := rfl
  have h : iI (-1 - x) = iI (-1) - iI x := (iI_sub _ _).symm
  rw [h, e, Int32.xor_neg_one, Int32.not_eq_neg_sub, Int32.sub_eq_add_neg, Int32.sub_eq_add_neg, Int32.add_comm]
/-- u's lowest c bits are set, the next is clear -/
theorem ntz_mask {u m c : Nat} (hu : u < 2147483647) (hc : u = 2 ^ (c + 1) * m + (2 ^ c - 1)) : iI (u : Int) &&& iI (-1 - ((u + 1 : Nat) : Int)) = iI ((2 ^ c - 1 : Nat) : Int) := by
  rw [← iI_not ((u + 1 : Nat) : Int)]
  have e : iI (-1) = -1 := rfl
  rw [e, Int32.xor_neg_one]
  apply Int32.toBitVec.inj
  show BitVec.ofInt 32 (u : Int) &&& ~~~ BitVec.ofInt 32 ((u + 1 : Nat) : Int) = BitVec.ofInt 32 ((2 ^ c - 1 : Nat) : Int)
  rw [BitVec.ofInt_natCast, BitVec.ofInt_natCast, BitVec.ofInt_natCast]
  have hp : 0 < 2 ^ c := Nat.two_pow_pos c
  have h2 : 2 ^ (c + 1) = 2 ^ c * 2 := rfl
  have e1 : u + 1 = 2 ^ (c + 1) * m + 2 ^ c := by omega
  apply BitVec.eq_of_getLsbD_eq
  intro i hi
  rw [BitVec.getLsbD_and, BitVec.getLsbD_not, BitVec.getLsbD_ofNat, BitVec.getLsbD_ofNat, BitVec.getLsbD_ofNat, e1]
  rw [show u.testBit i = (2 ^ (c + 1) * m + (2 ^ c - 1)).testBit i from by rw [hc]]
  rw [Nat.testBit_two_pow_mul_add _ (show 2 ^ c - 1 < 2 ^ (c + 1) by omega), Nat.testBit_two_pow_mul_add _ (show 2 ^ c < 2 ^ (c + 1) by omega), Nat.testBit_two_pow_sub_one]
  by_cases h : i < c + 1
  · rw [if_pos h, if_pos h, Nat.testBit_two_pow]
    by_cases e2 : i < c
    · simp [hi, e2, show ¬ c = i by omega]
    · simp [hi, e2]
  · rw [if_neg h, if_neg h]
    simp [hi, show ¬ i < c by omega]
theorem c_ntz0 (w : pW) {u m : Nat} (hu : u < 2147483647) (hc : u = 2 ^ (0 + 1) * m + (2 ^ 0 - 1)) : pRun 135 [.int (iI (-1 - (u : Int)))] w (some (.int (iI 0))) w := by
  refine qx_run ?_
  refine pc_run (lv := [(0, .int (iI (-1 - (u : Int))))]) rfl ?_
  refine pe_go (pc := 0) rfl (s_iload_n rfl) ?_
  refine pe_go (pc := 1) rfl (s_iconst (z := -1) rfl) ?_
  refine pe_go (pc := 2) rfl s_ixor ?_
  rw [iI_not, show -1 - (-1 - (u : Int)) = (u : Int) by omega]
  refine pe_go (pc := 3) rfl (s_iload_n rfl) ?_
  refine pe_go (pc := 4) rfl (s_iconst (z := 1) rfl) ?_
  refine pe_go (pc := 5) rfl s_isub ?_
  refine pe_go (pc := 6) rfl s_iand ?_
  rw [show -1 - (u : Int) - 1 = -1 - ((u + 1 : Nat) : Int) by omega, ntz_mask hu hc]
  refine pe_go (pc := 7) rfl (s_istore_n (lv' := [(0, .int (iI 0))]) rfl) ?_
  refine pe_go (pc := 8) rfl (s_iload_n rfl) ?_
  refine pe_go rfl (s_if_gt_f ⟨by decide, by decide⟩ (by decide)) ?_
  refine pe_go (pc := 12) rfl (s_iload_n rfl) ?_
  refine pe_go (pc := 13) rfl (s_bipush (z := 32) rfl) ?_
  refine pe_go (pc := 15) rfl s_iand ?_
  rw [show iI 0 &&& iI 32 = iI 0 from by decide]
  exact pe_ret rfl s_reti ⟨rfl, rfl⟩
theorem c_ntz1 (w : pW) {u m : Nat} (hu : u < 2147483647) (hc : u = 2 ^ (1 + 1) * m + (2 ^ 1 - 1)) : pRun 135 [.int (iI (-1 - (u : Int)))] w (some (.int (iI 1))) w := by
  refine qx_run ?_
  refine pc_run (lv := [(0, .int (iI (-1 - (u : Int))))]) rfl ?_
  refine pe_go (pc := 0) rfl (s_iload_n rfl) ?_
  refine pe_go (pc := 1) rfl (s_iconst (z := -1) rfl) ?_
  refine pe_go (pc := 2) rfl s_ixor ?_
  rw [iI_not, show -1 - (-1 - (u : Int)) = (u : Int) by omega]
  refine pe_go (pc := 3) rfl (s_iload_n rfl) ?_
  refine pe_go (pc := 4) rfl (s_iconst (z := 1) rfl) ?_
  refine pe_go (pc := 5) rfl s_isub ?_
  refine pe_go (pc := 6) rfl s_iand ?_
  rw [show -1 - (u : Int) - 1 = -1 - ((u + 1 : Nat) : Int) by omega, ntz_mask hu hc]
  refine pe_go (pc := 7) rfl (s_istore_n (lv' := [(0, .int (iI 1))]) rfl) ?_
  refine pe_go (pc := 8) rfl (s_iload_n rfl) ?_
  refine pe_go rfl (s_if_gt_t ⟨by decide, by decide⟩ (by decide)) ?_
  refine pe_go (pc := 17) rfl (s_iconst (z := 1) rfl) ?_
  refine pe_go (pc := 18) rfl (s_istore_n (lv' := [(1, .int (iI 1)), (0, .int (iI 1))]) rfl) ?_
  refine pe_go (pc := 19) rfl (s_iload_n rfl) ?_
  refine pe_go (pc := 20) rfl (s_ldc_w (z := 65536) rfl) ?_
  refine pe_go rfl (s_icmp_le_t ⟨by decide, by decide⟩ ⟨by decide, by decide⟩ (by decide)) ?_
  refine pe_go (pc := 34) rfl (s_iload_n rfl) ?_
  refine pe_go (pc := 35) rfl (s_sipush (z := 256) rfl) ?_
  refine pe_go rfl (s_icmp_le_t ⟨by decide, by decide⟩ ⟨by decide, by decide⟩ (by decide)) ?_
  refine pe_go (pc := 49) rfl (s_iload_n rfl) ?_
  refine pe_go (pc := 50) rfl (s_bipush (z := 16) rfl) ?_
  refine pe_go rfl (s_icmp_le_t ⟨by decide, by decide⟩ ⟨by decide, by decide⟩ (by decide)) ?_
  refine pe_go (pc := 62) rfl (s_iload_n rfl) ?_
  refine pe_go (pc := 63) rfl (s_iconst (z := 4) rfl) ?_
  refine pe_go rfl (s_icmp_le_t ⟨by decide, by decide⟩ ⟨by decide, by decide⟩ (by decide)) ?_
  refine pe_go (pc := 74) rfl (s_iload_n rfl) ?_
  refine pe_go (pc := 75) rfl (s_iload_n rfl) ?_
  refine pe_go (pc := 76) rfl (s_iconst (z := 1) rfl) ?_
  refine pe_go (pc := 77) rfl s_iushr ?_
  rw [show ((iI 1).toUInt32 >>> ((iI 1).toUInt32 &&& Int32.toUInt32 31)).toInt32 = iI 0 from by decide]
  refine pe_go (q := (79, [(1, .int (iI 1)), (0, .int (iI 1))], [.int (iI 1)], w)) rfl s_iadd ?_
  exact pe_ret rfl s_reti ⟨rfl, rfl⟩
theorem c_ntz2 (w : pW) {u m : Nat} (hu : u < 2147483647) (hc : u = 2 ^ (2 + 1) * m + (2 ^ 2 - 1)) : pRun 135 [.int (iI (-1 - (u : Int)))] w (some (.int (iI 2))) w := by
  refine qx_run ?_
  refine pc_run (lv := [(0, .int (iI (-1 - (u : Int))))]) rfl ?_
  refine pe_go (pc := 0) rfl (s_iload_n rfl) ?_
  refine pe_go (pc := 1) rfl (s_iconst (z := -1) rfl) ?_
  refine pe_go (pc := 2) rfl s_ixor ?_
  rw [iI_not, show -1 - (-1 - (u : Int)) = (u : Int) by omega]
  refine pe_go (pc := 3) rfl (s_iload_n rfl) ?_
  refine pe_go (pc := 4) rfl (s_iconst (z := 1) rfl) ?_
  refine pe_go (pc := 5) rfl s_isub ?_
  refine pe_go (pc := 6) rfl s_iand ?_
  rw [show -1 - (u : Int) - 1 = -1 - ((u + 1 : Nat) : Int) by omega, ntz_mask hu hc]
  refine pe_go (pc := 7) rfl (s_istore_n (lv' := [(0, .int (iI 3))]) rfl) ?_
  refine pe_go (pc := 8) rfl (s_iload_n rfl) ?_
  refine pe_go rfl (s_if_gt_t ⟨by decide, by decide⟩ (by decide)) ?_
  refine pe_go (pc := 17) rfl (s_iconst (z := 1) rfl) ?_
  refine pe_go (pc := 18) rfl (s_istore_n (lv' := [(1, .int (iI 1)), (0, .int (iI 3))]) rfl) ?_
  refine pe_go (pc := 19) rfl (s_iload_n rfl) ?_
  refine pe_go (pc := 20) rfl (s_ldc_w (z := 65536) rfl) ?_
  refine pe_go rfl (s_icmp_le_t ⟨by decide, by decide⟩ ⟨by decide, by decide⟩ (by decide)) ?_
  refine pe_go (pc := 34) rfl (s_iload_n rfl) ?_
  refine pe_go (pc := 35) rfl (s_sipush (z := 256) rfl) ?_
  refine pe_go rfl (s_icmp_le_t ⟨by decide, by decide⟩ ⟨by decide, by decide⟩ (by decide)) ?_
  refine pe_go (pc := 49) rfl (s_iload_n rfl) ?_
  refine pe_go (pc := 50) rfl (s_bipush (z := 16) rfl) ?_
  refine pe_go rfl (s_icmp_le_t ⟨by decide, by decide⟩ ⟨by decide, by decide⟩ (by decide)) ?_
  refine pe_go (pc := 62) rfl (s_iload_n rfl) ?_
  refine pe_go (pc := 63) rfl (s_iconst (z := 4) rfl) ?_
  refine pe_go rfl (s_icmp_le_t ⟨by decide, by decide⟩ ⟨by decide, by decide⟩ (by decide)) ?_
  refine pe_go (pc := 74) rfl (s_iload_n rfl) ?_
  refine pe_go (pc := 75) rfl (s_iload_n rfl) ?_
  refine pe_go (pc := 76) rfl (s_iconst (z := 1) rfl) ?_
  refine pe_go (pc := 77) rfl s_iushr ?_
  rw [show ((iI 3).toUInt32 >>> ((iI 1).toUInt32 &&& Int32.toUInt32 31)).toInt32 = iI 1 from by decide]
  refine pe_go (q := (79, [(1, .int (iI 1)), (0, .int (iI 3))], [.int (iI 2)], w)) rfl s_iadd ?_
  exact pe_ret rfl s_reti ⟨rfl, rfl⟩
theorem c_ntz3 (w : pW) {u m : Nat} (hu : u < 2147483647) (hc : u = 2 ^ (3 + 1) * m + (2 ^ 3 - 1)) : pRun 135 [.int (iI (-1 - (u : Int)))] w (some (.int (iI 3))) w := by
  refine qx_run ?_
  refine pc_run (lv := [(0, .int (iI (-1 - (u : Int))))]) rfl ?_
  refine pe_go (pc := 0) rfl (s_iload_n rfl) ?_
  refine pe_go (pc := 1) rfl (s_iconst (z := -1) rfl) ?_
  refine pe_go (pc := 2) rfl s_ixor ?_
  rw [iI_not, show -1 - (-1 - (u : Int)) = (u : Int) by omega]
  refine pe_go (pc := 3) rfl (s_iload_n rfl) ?_
  refine pe_go (pc := 4) rfl (s_iconst (z := 1) rfl) ?_
  refine pe_go (pc := 5) rfl s_isub ?_
  refine pe_go (pc := 6) rfl s_iand ?_
  rw [show -1 - (u : Int) - 1 = -1 - ((u + 1 : Nat) : Int) by omega, ntz_mask hu hc]
  refine pe_go (pc := 7) rfl (s_istore_n (lv' := [(0, .int (iI 7))]) rfl) ?_
  refine pe_go (pc := 8) rfl (s_iload_n rfl) ?_
  refine pe_go rfl (s_if_gt_t ⟨by decide, by decide⟩ (by decide)) ?_
  refine pe_go (pc := 17) rfl (s_iconst (z := 1) rfl) ?_
  refine pe_go (pc := 18) rfl (s_istore_n (lv' := [(1, .int (iI 1)), (0, .int (iI 7))]) rfl) ?_
  refine pe_go (pc := 19) rfl (s_iload_n rfl) ?_
  refine pe_go (pc := 20) rfl (s_ldc_w (z := 65536) rfl) ?_
  refine pe_go rfl (s_icmp_le_t ⟨by decide, by decide⟩ ⟨by decide, by decide⟩ (by decide)) ?_
  refine pe_go (pc := 34) rfl (s_iload_n rfl) ?_
  refine pe_go (pc := 35) rfl (s_sipush (z := 256) rfl) ?_
  refine pe_go rfl (s_icmp_le_t ⟨by decide, by decide⟩ ⟨by decide, by decide⟩ (by decide)) ?_
  refine pe_go (pc := 49) rfl (s_iload_n rfl) ?_
  refine pe_go (pc := 50) rfl (s_bipush (z := 16) rfl) ?_
  refine pe_go rfl (s_icmp_le_t ⟨by decide, by decide⟩ ⟨by decide, by decide⟩ (by decide)) ?_
  refine pe_go (pc := 62) rfl (s_iload_n rfl) ?_
  refine pe_go (pc := 63) rfl (s_iconst (z := 4) rfl) ?_
  refine pe_go rfl (s_icmp_le_f ⟨by decide, by decide⟩ ⟨by decide, by decide⟩ (by decide)) ?_
  refine pe_go (pc := 67) rfl (s_iinc (x := 1) (y := 3) rfl (by omega) (lv' := [(1, .int (iI 3)), (0, .int (iI 7))]) rfl) ?_
  refine pe_go (pc := 70) rfl (s_iload_n rfl) ?_
  refine pe_go (pc := 71) rfl (s_iconst (z := 2) rfl) ?_
  refine pe_go (pc := 72) rfl s_iushr ?_
  rw [show ((iI 7).toUInt32 >>> ((iI 2).toUInt32 &&& Int32.toUInt32 31)).toInt32 = iI 1 from by decide]
  refine pe_go (pc := 73) rfl (s_istore_n (lv' := [(0, .int (iI 1)), (1, .int (iI 3))]) rfl) ?_
  refine pe_go (pc := 74) rfl (s_iload_n rfl) ?_
  refine pe_go (pc := 75) rfl (s_iload_n rfl) ?_
  refine pe_go (pc := 76) rfl (s_iconst (z := 1) rfl) ?_
  refine pe_go (pc := 77) rfl s_iushr ?_
  rw [show ((iI 1).toUInt32 >>> ((iI 1).toUInt32 &&& Int32.toUInt32 31)).toInt32 = iI 0 from by decide]
  refine pe_go (q := (79, [(0, .int (iI 1)), (1, .int (iI 3))], [.int (iI 3)], w)) rfl s_iadd ?_
  exact pe_ret rfl s_reti ⟨rfl, rfl⟩
theorem c_ntz4 (w : pW) {u m : Nat} (hu : u < 2147483647) (hc : u = 2 ^ (4 + 1) * m + (2 ^ 4 - 1)) : pRun 135 [.int (iI (-1 - (u : Int)))] w (some (.int (iI 4))) w := by
  refine qx_run ?_
  refine pc_run (lv := [(0, .int (iI (-1 - (u : Int))))]) rfl ?_
  refine pe_go (pc := 0) rfl (s_iload_n rfl) ?_
  refine pe_go (pc := 1) rfl (s_iconst (z := -1) rfl) ?_
  refine pe_go (pc := 2) rfl s_ixor ?_
  rw [iI_not, show -1 - (-1 - (u : Int)) = (u : Int) by omega]
  refine pe_go (pc := 3) rfl (s_iload_n rfl) ?_
  refine pe_go (pc := 4) rfl (s_iconst (z := 1) rfl) ?_
  refine pe_go (pc := 5) rfl s_isub ?_
  refine pe_go (pc := 6) rfl s_iand ?_
  rw [show -1 - (u : Int) - 1 = -1 - ((u + 1 : Nat) : Int) by omega, ntz_mask hu hc]
  refine pe_go (pc := 7) rfl (s_istore_n (lv' := [(0, .int (iI 15))]) rfl) ?_
  refine pe_go (pc := 8) rfl (s_iload_n rfl) ?_
  refine pe_go rfl (s_if_gt_t ⟨by decide, by decide⟩ (by decide)) ?_
  refine pe_go (pc := 17) rfl (s_iconst (z := 1) rfl) ?_
  refine pe_go (pc := 18) rfl (s_istore_n (lv' := [(1, .int (iI 1)), (0, .int (iI 15))]) rfl) ?_
  refine pe_go (pc := 19) rfl (s_iload_n rfl) ?_
  refine pe_go (pc := 20) rfl (s_ldc_w (z := 65536) rfl) ?_
  refine pe_go rfl (s_icmp_le_t ⟨by decide, by decide⟩ ⟨by decide, by decide⟩ (by decide)) ?_
  refine pe_go (pc := 34) rfl (s_iload_n rfl) ?_
  refine pe_go (pc := 35) rfl (s_sipush (z := 256) rfl) ?_
  refine pe_go rfl (s_icmp_le_t ⟨by decide, by decide⟩ ⟨by decide, by decide⟩ (by decide)) ?_
  refine pe_go (pc := 49) rfl (s_iload_n rfl) ?_
  refine pe_go (pc := 50) rfl (s_bipush (z := 16) rfl) ?_
  refine pe_go rfl (s_icmp_le_t ⟨by decide, by decide⟩ ⟨by decide, by decide⟩ (by decide)) ?_
  refine pe_go (pc := 62) rfl (s_iload_n rfl) ?_
  refine pe_go (pc := 63) rfl (s_iconst (z := 4) rfl) ?_
  refine pe_go rfl (s_icmp_le_f ⟨by decide, by decide⟩ ⟨by decide, by decide⟩ (by decide)) ?_
  refine pe_go (pc := 67) rfl (s_iinc (x := 1) (y := 3) rfl (by omega) (lv' := [(1, .int (iI 3)), (0, .int (iI 15))]) rfl) ?_
  refine pe_go (pc := 70) rfl (s_iload_n rfl) ?_
  refine pe_go (pc := 71) rfl (s_iconst (z := 2) rfl) ?_
  refine pe_go (pc := 72) rfl s_iushr ?_
  rw [show ((iI 15).toUInt32 >>> ((iI 2).toUInt32 &&& Int32.toUInt32 31)).toInt32 = iI 3 from by decide]
  refine pe_go (pc := 73) rfl (s_istore_n (lv' := [(0, .int (iI 3)), (1, .int (iI 3))]) rfl) ?_
  refine pe_go (pc := 74) rfl (s_iload_n rfl) ?_
  refine pe_go (pc := 75) rfl (s_iload_n rfl) ?_
  refine pe_go (pc := 76) rfl (s_iconst (z := 1) rfl) ?_
  refine pe_go (pc := 77) rfl s_iushr ?_
  rw [show ((iI 3).toUInt32 >>> ((iI 1).toUInt32 &&& Int32.toUInt32 31)).toInt32 = iI 1 from by decide]
  refine pe_go (q := (79, [(0, .int (iI 3)), (1, .int (iI 3))], [.int (iI 4)], w)) rfl s_iadd ?_
  exact pe_ret rfl s_reti ⟨rfl, rfl⟩
theorem c_ntz5 (w : pW) {u m : Nat} (hu : u < 2147483647) (hc : u = 2 ^ (5 + 1) * m + (2 ^ 5 - 1)) : pRun 135 [.int (iI (-1 - (u : Int)))] w (some (.int (iI 5))) w := by
  refine qx_run ?_
  refine pc_run (lv := [(0, .int (iI (-1 - (u : Int))))]) rfl ?_
  refine pe_go (pc := 0) rfl (s_iload_n rfl) ?_
  refine pe_go (pc := 1) rfl (s_iconst (z := -1) rfl) ?_
  refine pe_go (pc := 2) rfl s_ixor ?_
  rw [iI_not, show -1 - (-1 - (u : Int)) = (u : Int) by omega]
  refine pe_go (pc := 3) rfl (s_iload_n rfl) ?_
  refine pe_go (pc := 4) rfl (s_iconst (z := 1) rfl) ?_
  refine pe_go (pc := 5) rfl s_isub ?_
  refine pe_go (pc := 6) rfl s_iand ?_
  rw [show -1 - (u : Int) - 1 = -1 - ((u + 1 : Nat) : Int) by omega, ntz_mask hu hc]
  refine pe_go (pc := 7) rfl (s_istore_n (lv' := [(0, .int (iI 31))]) rfl) ?_
  refine pe_go (pc := 8) rfl (s_iload_n rfl) ?_
  refine pe_go rfl (s_if_gt_t ⟨by decide, by decide⟩ (by decide)) ?_
  refine pe_go (pc := 17) rfl (s_iconst (z := 1) rfl) ?_
  refine pe_go (pc := 18) rfl (s_istore_n (lv' := [(1, .int (iI 1)), (0, .int (iI 31))]) rfl) ?_
  refine pe_go (pc := 19) rfl (s_iload_n rfl) ?_
  refine pe_go (pc := 20) rfl (s_ldc_w (z := 65536) rfl) ?_
  refine pe_go rfl (s_icmp_le_t ⟨by decide, by decide⟩ ⟨by decide, by decide⟩ (by decide)) ?_
  refine pe_go (pc := 34) rfl (s_iload_n rfl) ?_
  refine pe_go (pc := 35) rfl (s_sipush (z := 256) rfl) ?_
  refine pe_go rfl (s_icmp_le_t ⟨by decide, by decide⟩ ⟨by decide, by decide⟩ (by decide)) ?_
  refine pe_go (pc := 49) rfl (s_iload_n rfl) ?_
  refine pe_go (pc := 50) rfl (s_bipush (z := 16) rfl) ?_
  refine pe_go rfl (s_icmp_le_f ⟨by decide, by decide⟩ ⟨by decide, by decide⟩ (by decide)) ?_
  refine pe_go (pc := 55) rfl (s_iinc (x := 1) (y := 5) rfl (by omega) (lv' := [(1, .int (iI 5)), (0, .int (iI 31))]) rfl) ?_
  refine pe_go (pc := 58) rfl (s_iload_n rfl) ?_
  refine pe_go (pc := 59) rfl (s_iconst (z := 4) rfl) ?_
  refine pe_go (pc := 60) rfl s_iushr ?_
  rw [show ((iI 31).toUInt32 >>> ((iI 4).toUInt32 &&& Int32.toUInt32 31)).toInt32 = iI 1 from by decide]
  refine pe_go (pc := 61) rfl (s_istore_n (lv' := [(0, .int (iI 1)), (1, .int (iI 5))]) rfl) ?_
  refine pe_go (pc := 62) rfl (s_iload_n rfl) ?_
  refine pe_go (pc := 63) rfl (s_iconst (z := 4) rfl) ?_
  refine pe_go rfl (s_icmp_le_t ⟨by decide, by decide⟩ ⟨by decide, by decide⟩ (by decide)) ?_
  refine pe_go (pc := 74) rfl (s_iload_n rfl) ?_
  refine pe_go (pc := 75) rfl (s_iload_n rfl) ?_
  refine pe_go (pc := 76) rfl (s_iconst (z := 1) rfl) ?_
  refine pe_go (pc := 77) rfl s_iushr ?_
  rw [show ((iI 1).toUInt32 >>> ((iI 1).toUInt32 &&& Int32.toUInt32 31)).toInt32 = iI 0 from by decide]
  refine pe_go (q := (79, [(0, .int (iI 1)), (1, .int (iI 5))], [.int (iI 5)], w)) rfl s_iadd ?_
  exact pe_ret rfl s_reti ⟨rfl, rfl⟩
theorem c_ntz6 (w : pW) {u m : Nat} (hu : u < 2147483647) (hc : u = 2 ^ (6 + 1) * m + (2 ^ 6 - 1)) : pRun 135 [.int (iI (-1 - (u : Int)))] w (some (.int (iI 6))) w := by
  refine qx_run ?_
  refine pc_run (lv := [(0, .int (iI (-1 - (u : Int))))]) rfl ?_
  refine pe_go (pc := 0) rfl (s_iload_n rfl) ?_
  refine pe_go (pc := 1) rfl (s_iconst (z := -1) rfl) ?_
  refine pe_go (pc := 2) rfl s_ixor ?_
  rw [iI_not, show -1 - (-1 - (u : Int)) = (u : Int) by omega]
  refine pe_go (pc := 3) rfl (s_iload_n rfl) ?_
  refine pe_go (pc := 4) rfl (s_iconst (z := 1) rfl) ?_
  refine pe_go (pc := 5) rfl s_isub ?_
  refine pe_go (pc := 6) rfl s_iand ?_
  rw [show -1 - (u : Int) - 1 = -1 - ((u + 1 : Nat) : Int) by omega, ntz_mask hu hc]
  refine pe_go (pc := 7) rfl (s_istore_n (lv' := [(0, .int (iI 63))]) rfl) ?_
  refine pe_go (pc := 8) rfl (s_iload_n rfl) ?_
  refine pe_go rfl (s_if_gt_t ⟨by decide, by decide⟩ (by decide)) ?_
  refine pe_go (pc := 17) rfl (s_iconst (z := 1) rfl) ?_
  refine pe_go (pc := 18) rfl (s_istore_n (lv' := [(1, .int (iI 1)), (0, .int (iI 63))]) rfl) ?_
  refine pe_go (pc := 19) rfl (s_iload_n rfl) ?_
  refine pe_go (pc := 20) rfl (s_ldc_w (z := 65536) rfl) ?_
  refine pe_go rfl (s_icmp_le_t ⟨by decide, by decide⟩ ⟨by decide, by decide⟩ (by decide)) ?_
  refine pe_go (pc := 34) rfl (s_iload_n rfl) ?_
  refine pe_go (pc := 35) rfl (s_sipush (z := 256) rfl) ?_
  refine pe_go rfl (s_icmp_le_t ⟨by decide, by decide⟩ ⟨by decide, by decide⟩ (by decide)) ?_
  refine pe_go (pc := 49) rfl (s_iload_n rfl) ?_
  refine pe_go (pc := 50) rfl (s_bipush (z := 16) rfl) ?_
  refine pe_go rfl (s_icmp_le_f ⟨by decide, by decide⟩ ⟨by decide, by decide⟩ (by decide)) ?_
  refine pe_go (pc := 55) rfl (s_iinc (x := 1) (y := 5) rfl (by omega) (lv' := [(1, .int (iI 5)), (0, .int (iI 63))]) rfl) ?_
  refine pe_go (pc := 58) rfl (s_iload_n rfl) ?_
  refine pe_go (pc := 59) rfl (s_iconst (z := 4) rfl) ?_
  refine pe_go (pc := 60) rfl s_iushr ?_
  rw [show ((iI 63).toUInt32 >>> ((iI 4).toUInt32 &&& Int32.toUInt32 31)).toInt32 = iI 3 from by decide]
  refine pe_go (pc := 61) rfl (s_istore_n (lv' := [(0, .int (iI 3)), (1, .int (iI 5))]) rfl) ?_
  refine pe_go (pc := 62) rfl (s_iload_n rfl) ?_
  refine pe_go (pc := 63) rfl (s_iconst (z := 4) rfl) ?_
  refine pe_go rfl (s_icmp_le_t ⟨by decide, by decide⟩ ⟨by decide, by decide⟩ (by decide)) ?_
  refine pe_go (pc := 74) rfl (s_iload_n rfl) ?_
  refine pe_go (pc := 75) rfl (s_iload_n rfl) ?_
  refine pe_go (pc := 76) rfl (s_iconst (z := 1) rfl) ?_
  refine pe_go (pc := 77) rfl s_iushr ?_
  rw [show ((iI 3).toUInt32 >>> ((iI 1).toUInt32 &&& Int32.toUInt32 31)).toInt32 = iI 1 from by decide]
  refine pe_go (q := (79, [(0, .int (iI 3)), (1, .int (iI 5))], [.int (iI 6)], w)) rfl s_iadd ?_
  exact pe_ret rfl s_reti ⟨rfl, rfl⟩
theorem c_ntz7 (w : pW) {u m : Nat} (hu : u < 2147483647) (hc : u = 2 ^ (7 + 1) * m + (2 ^ 7 - 1)) : pRun 135 [.int (iI (-1 - (u : Int)))] w (some (.int (iI 7))) w := by
  refine qx_run ?_
  refine pc_run (lv := [(0, .int (iI (-1 - (u : Int))))]) rfl ?_
  refine pe_go (pc := 0) rfl (s_iload_n rfl) ?_
  refine pe_go (pc := 1) rfl (s_iconst (z := -1) rfl) ?_
  refine pe_go (pc := 2) rfl s_ixor ?_
  rw [iI_not, show -1 - (-1 - (u : Int)) = (u : Int) by omega]
  refine pe_go (pc := 3) rfl (s_iload_n rfl) ?_
  refine pe_go (pc := 4) rfl (s_iconst (z := 1) rfl) ?_
  refine pe_go (pc := 5) rfl s_isub ?_
  refine pe_go (pc := 6) rfl s_iand ?_
  rw [show -1 - (u : Int) - 1 = -1 - ((u + 1 : Nat) : Int) by omega, ntz_mask hu hc]
  refine pe_go (pc := 7) rfl (s_istore_n (lv' := [(0, .int (iI 127))]) rfl) ?_
  refine pe_go (pc := 8) rfl (s_iload_n rfl) ?_
  refine pe_go rfl (s_if_gt_t ⟨by decide, by decide⟩ (by decide)) ?_
  refine pe_go (pc := 17) rfl (s_iconst (z := 1) rfl) ?_
  refine pe_go (pc := 18) rfl (s_istore_n (lv' := [(1, .int (iI 1)), (0, .int (iI 127))]) rfl) ?_
  refine pe_go (pc := 19) rfl (s_iload_n rfl) ?_
  refine pe_go (pc := 20) rfl (s_ldc_w (z := 65536) rfl) ?_
  refine pe_go rfl (s_icmp_le_t ⟨by decide, by decide⟩ ⟨by decide, by decide⟩ (by decide)) ?_
  refine pe_go (pc := 34) rfl (s_iload_n rfl) ?_
  refine pe_go (pc := 35) rfl (s_sipush (z := 256) rfl) ?_
  refine pe_go rfl (s_icmp_le_t ⟨by decide, by decide⟩ ⟨by decide, by decide⟩ (by decide)) ?_
  refine pe_go (pc := 49) rfl (s_iload_n rfl) ?_
  refine pe_go (pc := 50) rfl (s_bipush (z := 16) rfl) ?_
  refine pe_go rfl (s_icmp_le_f ⟨by decide, by decide⟩ ⟨by decide, by decide⟩ (by decide)) ?_
  refine pe_go (pc := 55) rfl (s_iinc (x := 1) (y := 5) rfl (by omega) (lv' := [(1, .int (iI 5)), (0, .int (iI 127))]) rfl) ?_
  refine pe_go (pc := 58) rfl (s_iload_n rfl) ?_
  refine pe_go (pc := 59) rfl (s_iconst (z := 4) rfl) ?_
  refine pe_go (pc := 60) rfl s_iushr ?_
  rw [show ((iI 127).toUInt32 >>> ((iI 4).toUInt32 &&& Int32.toUInt32 31)).toInt32 = iI 7 from by decide]
  refine pe_go (pc := 61) rfl (s_istore_n (lv' := [(0, .int (iI 7)), (1, .int (iI 5))]) rfl) ?_
  refine pe_go (pc := 62) rfl (s_iload_n rfl) ?_
  refine pe_go (pc := 63) rfl (s_iconst (z := 4) rfl) ?_
  refine pe_go rfl (s_icmp_le_f ⟨by decide, by decide⟩ ⟨by decide, by decide⟩ (by decide)) ?_
  refine pe_go (pc := 67) rfl (s_iinc (x := 5) (y := 7) rfl (by omega) (lv' := [(1, .int (iI 7)), (0, .int (iI 7))]) rfl) ?_
  refine pe_go (pc := 70) rfl (s_iload_n rfl) ?_
  refine pe_go (pc := 71) rfl (s_iconst (z := 2) rfl) ?_
  refine pe_go (pc := 72) rfl s_iushr ?_
  rw [show ((iI 7).toUInt32 >>> ((iI 2).toUInt32 &&& Int32.toUInt32 31)).toInt32 = iI 1 from by decide]
  refine pe_go (pc := 73) rfl (s_istore_n (lv' := [(0, .int (iI 1)), (1, .int (iI 7))]) rfl) ?_
  refine pe_go (pc := 74) rfl (s_iload_n rfl) ?_
  refine pe_go (pc := 75) rfl (s_iload_n rfl) ?_
  refine pe_go (pc := 76) rfl (s_iconst (z := 1) rfl) ?_
  refine pe_go (pc := 77) rfl s_iushr ?_
  rw [show ((iI 1).toUInt32 >>> ((iI 1).toUInt32 &&& Int32.toUInt32 31)).toInt32 = iI 0 from by decide]
  refine pe_go (q := (79, [(0, .int (iI 1)), (1, .int (iI 7))], [.int (iI 7)], w)) rfl s_iadd ?_
  exact pe_ret rfl s_reti ⟨rfl, rfl⟩
theorem c_ntz8 (w : pW) {u m : Nat} (hu : u < 2147483647) (hc : u = 2 ^ (8 + 1) * m + (2 ^ 8 - 1)) : pRun 135 [.int (iI (-1 - (u : Int)))] w (some (.int (iI 8))) w := by
  refine qx_run ?_
  refine pc_run (lv := [(0, .int (iI (-1 - (u : Int))))]) rfl ?_
  refine pe_go (pc := 0) rfl (s_iload_n rfl) ?_
  refine pe_go (pc := 1) rfl (s_iconst (z := -1) rfl) ?_
  refine pe_go (pc := 2) rfl s_ixor ?_
  rw [iI_not, show -1 - (-1 - (u : Int)) = (u : Int) by omega]
  refine pe_go (pc := 3) rfl (s_iload_n rfl) ?_
  refine pe_go (pc := 4) rfl (s_iconst (z := 1) rfl) ?_
  refine pe_go (pc := 5) rfl s_isub ?_
  refine pe_go (pc := 6) rfl s_iand ?_
  rw [show -1 - (u : Int) - 1 = -1 - ((u + 1 : Nat) : Int) by omega, ntz_mask hu hc]
  refine pe_go (pc := 7) rfl (s_istore_n (lv' := [(0, .int (iI 255))]) rfl) ?_
  refine pe_go (pc := 8) rfl (s_iload_n rfl) ?_
  refine pe_go rfl (s_if_gt_t ⟨by decide, by decide⟩ (by decide)) ?_
  refine pe_go (pc := 17) rfl (s_iconst (z := 1) rfl) ?_
  refine pe_go (pc := 18) rfl (s_istore_n (lv' := [(1, .int (iI 1)), (0, .int (iI 255))]) rfl) ?_
  refine pe_go (pc := 19) rfl (s_iload_n rfl) ?_
  refine pe_go (pc := 20) rfl (s_ldc_w (z := 65536) rfl) ?_
  refine pe_go rfl (s_icmp_le_t ⟨by decide, by decide⟩ ⟨by decide, by decide⟩ (by decide)) ?_
  refine pe_go (pc := 34) rfl (s_iload_n rfl) ?_
  refine pe_go (pc := 35) rfl (s_sipush (z := 256) rfl) ?_
  refine pe_go rfl (s_icmp_le_t ⟨by decide, by decide⟩ ⟨by decide, by decide⟩ (by decide)) ?_
  refine pe_go (pc := 49) rfl (s_iload_n rfl) ?_
  refine pe_go (pc := 50) rfl (s_bipush (z := 16) rfl) ?_
  refine pe_go rfl (s_icmp_le_f ⟨by decide, by decide⟩ ⟨by decide, by decide⟩ (by decide)) ?_
  refine pe_go (pc := 55) rfl (s_iinc (x := 1) (y := 5) rfl (by omega) (lv' := [(1, .int (iI 5)), (0, .int (iI 255))]) rfl) ?_
  refine pe_go (pc := 58) rfl (s_iload_n rfl) ?_
  refine pe_go (pc := 59) rfl (s_iconst (z := 4) rfl) ?_
  refine pe_go (pc := 60) rfl s_iushr ?_
  rw [show ((iI 255).toUInt32 >>> ((iI 4).toUInt32 &&& Int32.toUInt32 31)).toInt32 = iI 15 from by decide]
  refine pe_go (pc := 61) rfl (s_istore_n (lv' := [(0, .int (iI 15)), (1, .int (iI 5))]) rfl) ?_
  refine pe_go (pc := 62) rfl (s_iload_n rfl) ?_
  refine pe_go (pc := 63) rfl (s_iconst (z := 4) rfl) ?_
  refine pe_go rfl (s_icmp_le_f ⟨by decide, by decide⟩ ⟨by decide, by decide⟩ (by decide)) ?_
  refine pe_go (pc := 67) rfl (s_iinc (x := 5) (y := 7) rfl (by omega) (lv' := [(1, .int (iI 7)), (0, .int (iI 15))]) rfl) ?_
  refine pe_go (pc := 70) rfl (s_iload_n rfl) ?_
  refine pe_go (pc := 71) rfl (s_iconst (z := 2) rfl) ?_
  refine pe_go (pc := 72) rfl s_iushr ?_
  rw [show ((iI 15).toUInt32 >>> ((iI 2).toUInt32 &&& Int32.toUInt32 31)).toInt32 = iI 3 from by decide]
  refine pe_go (pc := 73) rfl (s_istore_n (lv' := [(0, .int (iI 3)), (1, .int (iI 7))]) rfl) ?_
  refine pe_go (pc := 74) rfl (s_iload_n rfl) ?_
  refine pe_go (pc := 75) rfl (s_iload_n rfl) ?_
  refine pe_go (pc := 76) rfl (s_iconst (z := 1) rfl) ?_
  refine pe_go (pc := 77) rfl s_iushr ?_
  rw [show ((iI 3).toUInt32 >>> ((iI 1).toUInt32 &&& Int32.toUInt32 31)).toInt32 = iI 1 from by decide]
  refine pe_go (q := (79, [(0, .int (iI 3)), (1, .int (iI 7))], [.int (iI 8)], w)) rfl s_iadd ?_
  exact pe_ret rfl s_reti ⟨rfl, rfl⟩
theorem c_ntz9 (w : pW) {u m : Nat} (hu : u < 2147483647) (hc : u = 2 ^ (9 + 1) * m + (2 ^ 9 - 1)) : pRun 135 [.int (iI (-1 - (u : Int)))] w (some (.int (iI 9))) w := by
  refine qx_run ?_
  refine pc_run (lv := [(0, .int (iI (-1 - (u : Int))))]) rfl ?_
  refine pe_go (pc := 0) rfl (s_iload_n rfl) ?_
  refine pe_go (pc := 1) rfl (s_iconst (z := -1) rfl) ?_
  refine pe_go (pc := 2) rfl s_ixor ?_
  rw [iI_not, show -1 - (-1 - (u : Int)) = (u : Int) by omega]
  refine pe_go (pc := 3) rfl (s_iload_n rfl) ?_
  refine pe_go (pc := 4) rfl (s_iconst (z := 1) rfl) ?_
  refine pe_go (pc := 5) rfl s_isub ?_
  refine pe_go (pc := 6) rfl s_iand ?_
  rw [show -1 - (u : Int) - 1 = -1 - ((u + 1 : Nat) : Int) by omega, ntz_mask hu hc]
  refine pe_go (pc := 7) rfl (s_istore_n (lv' := [(0, .int (iI 511))]) rfl) ?_
  refine pe_go (pc := 8) rfl (s_iload_n rfl) ?_
  refine pe_go rfl (s_if_gt_t ⟨by decide, by decide⟩ (by decide)) ?_
  refine pe_go (pc := 17) rfl (s_iconst (z := 1) rfl) ?_
  refine pe_go (pc := 18) rfl (s_istore_n (lv' := [(1, .int (iI 1)), (0, .int (iI 511))]) rfl) ?_
  refine pe_go (pc := 19) rfl (s_iload_n rfl) ?_
  refine pe_go (pc := 20) rfl (s_ldc_w (z := 65536) rfl) ?_
  refine pe_go rfl (s_icmp_le_t ⟨by decide, by decide⟩ ⟨by decide, by decide⟩ (by decide)) ?_
  refine pe_go (pc := 34) rfl (s_iload_n rfl) ?_
  refine pe_go (pc := 35) rfl (s_sipush (z := 256) rfl) ?_
  refine pe_go rfl (s_icmp_le_f ⟨by decide, by decide⟩ ⟨by decide, by decide⟩ (by decide)) ?_
  refine pe_go (pc := 41) rfl (s_iinc (x := 1) (y := 9) rfl (by omega) (lv' := [(1, .int (iI 9)), (0, .int (iI 511))]) rfl) ?_
  refine pe_go (pc := 44) rfl (s_iload_n rfl) ?_
  refine pe_go (pc := 45) rfl (s_bipush (z := 8) rfl) ?_
  refine pe_go (pc := 47) rfl s_iushr ?_
  rw [show ((iI 511).toUInt32 >>> ((iI 8).toUInt32 &&& Int32.toUInt32 31)).toInt32 = iI 1 from by decide]
  refine pe_go (pc := 48) rfl (s_istore_n (lv' := [(0, .int (iI 1)), (1, .int (iI 9))]) rfl) ?_
  refine pe_go (pc := 49) rfl (s_iload_n rfl) ?_
  refine pe_go (pc := 50) rfl (s_bipush (z := 16) rfl) ?_
  refine pe_go rfl (s_icmp_le_t ⟨by decide, by decide⟩ ⟨by decide, by decide⟩ (by decide)) ?_
  refine pe_go (pc := 62) rfl (s_iload_n rfl) ?_
  refine pe_go (pc := 63) rfl (s_iconst (z := 4) rfl) ?_
  refine pe_go rfl (s_icmp_le_t ⟨by decide, by decide⟩ ⟨by decide, by decide⟩ (by decide)) ?_
  refine pe_go (pc := 74) rfl (s_iload_n rfl) ?_
  refine pe_go (pc := 75) rfl (s_iload_n rfl) ?_
  refine pe_go (pc := 76) rfl (s_iconst (z := 1) rfl) ?_
  refine pe_go (pc := 77) rfl s_iushr ?_
  rw [show ((iI 1).toUInt32 >>> ((iI 1).toUInt32 &&& Int32.toUInt32 31)).toInt32 = iI 0 from by decide]
  refine pe_go (q := (79, [(0, .int (iI 1)), (1, .int (iI 9))], [.int (iI 9)], w)) rfl s_iadd ?_
  exact pe_ret rfl s_reti ⟨rfl, rfl⟩
theorem c_ntz10 (w : pW) {u m : Nat} (hu : u < 2147483647) (hc : u = 2 ^ (10 + 1) * m + (2 ^ 10 - 1)) : pRun 135 [.int (iI (-1 - (u : Int)))] w (some (.int (iI 10))) w := by
  refine qx_run ?_
  refine pc_run (lv := [(0, .int (iI (-1 - (u : Int))))]) rfl ?_
  refine pe_go (pc := 0) rfl (s_iload_n rfl) ?_
  refine pe_go (pc := 1) rfl (s_iconst (z := -1) rfl) ?_
  refine pe_go (pc := 2) rfl s_ixor ?_
  rw [iI_not, show -1 - (-1 - (u : Int)) = (u : Int) by omega]
  refine pe_go (pc := 3) rfl (s_iload_n rfl) ?_
  refine pe_go (pc := 4) rfl (s_iconst (z := 1) rfl) ?_
  refine pe_go (pc := 5) rfl s_isub ?_
  refine pe_go (pc := 6) rfl s_iand ?_
  rw [show -1 - (u : Int) - 1 = -1 - ((u + 1 : Nat) : Int) by omega, ntz_mask hu hc]
  refine pe_go (pc := 7) rfl (s_istore_n (lv' := [(0, .int (iI 1023))]) rfl) ?_
  refine pe_go (pc := 8) rfl (s_iload_n rfl) ?_
  refine pe_go rfl (s_if_gt_t ⟨by decide, by decide⟩ (by decide)) ?_
  refine pe_go (pc := 17) rfl (s_iconst (z := 1) rfl) ?_
  refine pe_go (pc := 18) rfl (s_istore_n (lv' := [(1, .int (iI 1)), (0, .int (iI 1023))]) rfl) ?_
  refine pe_go (pc := 19) rfl (s_iload_n rfl) ?_
  refine pe_go (pc := 20) rfl (s_ldc_w (z := 65536) rfl) ?_
  refine pe_go rfl (s_icmp_le_t ⟨by decide, by decide⟩ ⟨by decide, by decide⟩ (by decide)) ?_
  refine pe_go (pc := 34) rfl (s_iload_n rfl) ?_
  refine pe_go (pc := 35) rfl (s_sipush (z := 256) rfl) ?_
  refine pe_go rfl (s_icmp_le_f ⟨by decide, by decide⟩ ⟨by decide, by decide⟩ (by decide)) ?_
  refine pe_go (pc := 41) rfl (s_iinc (x := 1) (y := 9) rfl (by omega) (lv' := [(1, .int (iI 9)), (0, .int (iI 1023))]) rfl) ?_
  refine pe_go (pc := 44) rfl (s_iload_n rfl) ?_
  refine pe_go (pc := 45) rfl (s_bipush (z := 8) rfl) ?_
  refine pe_go (pc := 47) rfl s_iushr ?_
  rw [show ((iI 1023).toUInt32 >>> ((iI 8).toUInt32 &&& Int32.toUInt32 31)).toInt32 = iI 3 from by decide]
  refine pe_go (pc := 48) rfl (s_istore_n (lv' := [(0, .int (iI 3)), (1, .int (iI 9))]) rfl) ?_
  refine pe_go (pc := 49) rfl (s_iload_n rfl) ?_
  refine pe_go (pc := 50) rfl (s_bipush (z := 16) rfl) ?_
  refine pe_go rfl (s_icmp_le_t ⟨by decide, by decide⟩ ⟨by decide, by decide⟩ (by decide)) ?_
  refine pe_go (pc := 62) rfl (s_iload_n rfl) ?_
  refine pe_go (pc := 63) rfl (s_iconst (z := 4) rfl) ?_
  refine pe_go rfl (s_icmp_le_t ⟨by decide, by decide⟩ ⟨by decide, by decide⟩ (by decide)) ?_
  refine pe_go (pc := 74) rfl (s_iload_n rfl) ?_
  refine pe_go (pc := 75) rfl (s_iload_n rfl) ?_
  refine pe_go (pc := 76) rfl (s_iconst (z := 1) rfl) ?_
  refine pe_go (pc := 77) rfl s_iushr ?_
  rw [show ((iI 3).toUInt32 >>> ((iI 1).toUInt32 &&& Int32.toUInt32 31)).toInt32 = iI 1 from by decide]
  refine pe_go (q := (79, [(0, .int (iI 3)), (1, .int (iI 9))], [.int (iI 10)], w)) rfl s_iadd ?_
  exact pe_ret rfl s_reti ⟨rfl, rfl⟩
theorem c_ntz11 (w : pW) {u m : Nat} (hu : u < 2147483647) (hc : u = 2 ^ (11 + 1) * m + (2 ^ 11 - 1)) : pRun 135 [.int (iI (-1 - (u : Int)))] w (some (.int (iI 11))) w := by
  refine qx_run ?_
  refine pc_run (lv := [(0, .int (iI (-1 - (u : Int))))]) rfl ?_
  refine pe_go (pc := 0) rfl (s_iload_n rfl) ?_
  refine pe_go (pc := 1) rfl (s_iconst (z := -1) rfl) ?_
  refine pe_go (pc := 2) rfl s_ixor ?_
  rw [iI_not, show -1 - (-1 - (u : Int)) = (u : Int) by omega]
  refine pe_go (pc := 3) rfl (s_iload_n rfl) ?_
  refine pe_go (pc := 4) rfl (s_iconst (z := 1) rfl) ?_
  refine pe_go (pc := 5) rfl s_isub ?_
  refine pe_go (pc := 6) rfl s_iand ?_
  rw [show -1 - (u : Int) - 1 = -1 - ((u + 1 : Nat) : Int) by omega, ntz_mask hu hc]
  refine pe_go (pc := 7) rfl (s_istore_n (lv' := [(0, .int (iI 2047))]) rfl) ?_
  refine pe_go (pc := 8) rfl (s_iload_n rfl) ?_
  refine pe_go rfl (s_if_gt_t ⟨by decide, by decide⟩ (by decide)) ?_
  refine pe_go (pc := 17) rfl (s_iconst (z := 1) rfl) ?_
  refine pe_go (pc := 18) rfl (s_istore_n (lv' := [(1, .int (iI 1)), (0, .int (iI 2047))]) rfl) ?_
  refine pe_go (pc := 19) rfl (s_iload_n rfl) ?_
  refine pe_go (pc := 20) rfl (s_ldc_w (z := 65536) rfl) ?_
  refine pe_go rfl (s_icmp_le_t ⟨by decide, by decide⟩ ⟨by decide, by decide⟩ (by decide)) ?_
  refine pe_go (pc := 34) rfl (s_iload_n rfl) ?_
  refine pe_go (pc := 35) rfl (s_sipush (z := 256) rfl) ?_
  refine pe_go rfl (s_icmp_le_f ⟨by decide, by decide⟩ ⟨by decide, by decide⟩ (by decide)) ?_
  refine pe_go (pc := 41) rfl (s_iinc (x := 1) (y := 9) rfl (by omega) (lv' := [(1, .int (iI 9)), (0, .int (iI 2047))]) rfl) ?_
  refine pe_go (pc := 44) rfl (s_iload_n rfl) ?_
  refine pe_go (pc := 45) rfl (s_bipush (z := 8) rfl) ?_
  refine pe_go (pc := 47) rfl s_iushr ?_
  rw [show ((iI 2047).toUInt32 >>> ((iI 8).toUInt32 &&& Int32.toUInt32 31)).toInt32 = iI 7 from by decide]
  refine pe_go (pc := 48) rfl (s_istore_n (lv' := [(0, .int (iI 7)), (1, .int (iI 9))]) rfl) ?_
  refine pe_go (pc := 49) rfl (s_iload_n rfl) ?_
  refine pe_go (pc := 50) rfl (s_bipush (z := 16) rfl) ?_
  refine pe_go rfl (s_icmp_le_t ⟨by decide, by decide⟩ ⟨by decide, by decide⟩ (by decide)) ?_
  refine pe_go (pc := 62) rfl (s_iload_n rfl) ?_
  refine pe_go (pc := 63) rfl (s_iconst (z := 4) rfl) ?_
  refine pe_go rfl (s_icmp_le_f ⟨by decide, by decide⟩ ⟨by decide, by decide⟩ (by decide)) ?_
  refine pe_go (pc := 67) rfl (s_iinc (x := 9) (y := 11) rfl (by omega) (lv' := [(1, .int (iI 11)), (0, .int (iI 7))]) rfl) ?_
  refine pe_go (pc := 70) rfl (s_iload_n rfl) ?_
  refine pe_go (pc := 71) rfl (s_iconst (z := 2) rfl) ?_
  refine pe_go (pc := 72) rfl s_iushr ?_
  rw [show ((iI 7).toUInt32 >>> ((iI 2).toUInt32 &&& Int32.toUInt32 31)).toInt32 = iI 1 from by decide]
  refine pe_go (pc := 73) rfl (s_istore_n (lv' := [(0, .int (iI 1)), (1, .int (iI 11))]) rfl) ?_
  refine pe_go (pc := 74) rfl (s_iload_n rfl) ?_
  refine pe_go (pc := 75) rfl (s_iload_n rfl) ?_
  refine pe_go (pc := 76) rfl (s_iconst (z := 1) rfl) ?_
  refine pe_go (pc := 77) rfl s_iushr ?_
  rw [show ((iI 1).toUInt32 >>> ((iI 1).toUInt32 &&& Int32.toUInt32 31)).toInt32 = iI 0 from by decide]
  refine pe_go (q := (79, [(0, .int (iI 1)), (1, .int (iI 11))], [.int (iI 11)], w)) rfl s_iadd ?_
  exact pe_ret rfl s_reti ⟨rfl, rfl⟩
theorem c_ntz12 (w : pW) {u m : Nat} (hu : u < 2147483647) (hc : u = 2 ^ (12 + 1) * m + (2 ^ 12 - 1)) : pRun 135 [.int (iI (-1 - (u : Int)))] w (some (.int (iI 12))) w := by
  refine qx_run ?_
  refine pc_run (lv := [(0, .int (iI (-1 - (u : Int))))]) rfl ?_
  refine pe_go (pc := 0) rfl (s_iload_n rfl) ?_
  refine pe_go (pc := 1) rfl (s_iconst (z := -1) rfl) ?_
  refine pe_go (pc := 2) rfl s_ixor ?_
  rw [iI_not, show -1 - (-1 - (u : Int)) = (u : Int) by omega]
  refine pe_go (pc := 3) rfl (s_iload_n rfl) ?_
  refine pe_go (pc := 4) rfl (s_iconst (z := 1) rfl) ?_
  refine pe_go (pc := 5) rfl s_isub ?_
  refine pe_go (pc := 6) rfl s_iand ?_
  rw [show -1 - (u : Int) - 1 = -1 - ((u + 1 : Nat) : Int) by omega, ntz_mask hu hc]
  refine pe_go (pc := 7) rfl (s_istore_n (lv' := [(0, .int (iI 4095))]) rfl) ?_
  refine pe_go (pc := 8) rfl (s_iload_n rfl) ?_
  refine pe_go rfl (s_if_gt_t ⟨by decide, by decide⟩ (by decide)) ?_
  refine pe_go (pc := 17) rfl (s_iconst (z := 1) rfl) ?_
  refine pe_go (pc := 18) rfl (s_istore_n (lv' := [(1, .int (iI 1)), (0, .int (iI 4095))]) rfl) ?_
  refine pe_go (pc := 19) rfl (s_iload_n rfl) ?_
  refine pe_go (pc := 20) rfl (s_ldc_w (z := 65536) rfl) ?_
  refine pe_go rfl (s_icmp_le_t ⟨by decide, by decide⟩ ⟨by decide, by decide⟩ (by decide)) ?_
  refine pe_go (pc := 34) rfl (s_iload_n rfl) ?_
  refine pe_go (pc := 35) rfl (s_sipush (z := 256) rfl) ?_
  refine pe_go rfl (s_icmp_le_f ⟨by decide, by decide⟩ ⟨by decide, by decide⟩ (by decide)) ?_
  refine pe_go (pc := 41) rfl (s_iinc (x := 1) (y := 9) rfl (by omega) (lv' := [(1, .int (iI 9)), (0, .int (iI 4095))]) rfl) ?_
  refine pe_go (pc := 44) rfl (s_iload_n rfl) ?_
  refine pe_go (pc := 45) rfl (s_bipush (z := 8) rfl) ?_
  refine pe_go (pc := 47) rfl s_iushr ?_
  rw [show ((iI 4095).toUInt32 >>> ((iI 8).toUInt32 &&& Int32.toUInt32 31)).toInt32 = iI 15 from by decide]
  refine pe_go (pc := 48) rfl (s_istore_n (lv' := [(0, .int (iI 15)), (1, .int (iI 9))]) rfl) ?_
  refine pe_go (pc := 49) rfl (s_iload_n rfl) ?_
  refine pe_go (pc := 50) rfl (s_bipush (z := 16) rfl) ?_
  refine pe_go rfl (s_icmp_le_t ⟨by decide, by decide⟩ ⟨by decide, by decide⟩ (by decide)) ?_
  refine pe_go (pc := 62) rfl (s_iload_n rfl) ?_
  refine pe_go (pc := 63) rfl (s_iconst (z := 4) rfl) ?_
  refine pe_go rfl (s_icmp_le_f ⟨by decide, by decide⟩ ⟨by decide, by decide⟩ (by decide)) ?_
  refine pe_go (pc := 67) rfl (s_iinc (x := 9) (y := 11) rfl (by omega) (lv' := [(1, .int (iI 11)), (0, .int (iI 15))]) rfl) ?_
  refine pe_go (pc := 70) rfl (s_iload_n rfl) ?_
  refine pe_go (pc := 71) rfl (s_iconst (z := 2) rfl) ?_
  refine pe_go (pc := 72) rfl s_iushr ?_
  rw [show ((iI 15).toUInt32 >>> ((iI 2).toUInt32 &&& Int32.toUInt32 31)).toInt32 = iI 3 from by decide]
  refine pe_go (pc := 73) rfl (s_istore_n (lv' := [(0, .int (iI 3)), (1, .int (iI 11))]) rfl) ?_
  refine pe_go (pc := 74) rfl (s_iload_n rfl) ?_
  refine pe_go (pc := 75) rfl (s_iload_n rfl) ?_
  refine pe_go (pc := 76) rfl (s_iconst (z := 1) rfl) ?_
  refine pe_go (pc := 77) rfl s_iushr ?_
  rw [show ((iI 3).toUInt32 >>> ((iI 1).toUInt32 &&& Int32.toUInt32 31)).toInt32 = iI 1 from by decide]
  refine pe_go (q := (79, [(0, .int (iI 3)), (1, .int (iI 11))], [.int (iI 12)], w)) rfl s_iadd ?_
  exact pe_ret rfl s_reti ⟨rfl, rfl⟩
theorem c_ntz13 (w : pW) {u m : Nat} (hu : u < 2147483647) (hc : u = 2 ^ (13 + 1) * m + (2 ^ 13 - 1)) : pRun 135 [.int (iI (-1 - (u : Int)))] w (some (.int (iI 13))) w := by
  refine qx_run ?_
  refine pc_run (lv := [(0, .int (iI (-1 - (u : Int))))]) rfl ?_
  refine pe_go (pc := 0) rfl (s_iload_n rfl) ?_
  refine pe_go (pc := 1) rfl (s_iconst (z := -1) rfl) ?_
  refine pe_go (pc := 2) rfl s_ixor ?_
  rw [iI_not, show -1 - (-1 - (u : Int)) = (u : Int) by omega]
  refine pe_go (pc := 3) rfl (s_iload_n rfl) ?_
  refine pe_go (pc := 4) rfl (s_iconst (z := 1) rfl) ?_
  refine pe_go (pc := 5) rfl s_isub ?_
  refine pe_go (pc := 6) rfl s_iand ?_
  rw [show -1 - (u : Int) - 1 = -1 - ((u + 1 : Nat) : Int) by omega, ntz_mask hu hc]
  refine pe_go (pc := 7) rfl (s_istore_n (lv' := [(0, .int (iI 8191))]) rfl) ?_
  refine pe_go (pc := 8) rfl (s_iload_n rfl) ?_
  refine pe_go rfl (s_if_gt_t ⟨by decide, by decide⟩ (by decide)) ?_
  refine pe_go (pc := 17) rfl (s_iconst (z := 1) rfl) ?_
  refine pe_go (pc := 18) rfl (s_istore_n (lv' := [(1, .int (iI 1)), (0, .int (iI 8191))]) rfl) ?_
  refine pe_go (pc := 19) rfl (s_iload_n rfl) ?_
  refine pe_go (pc := 20) rfl (s_ldc_w (z := 65536) rfl) ?_
  refine pe_go rfl (s_icmp_le_t ⟨by decide, by decide⟩ ⟨by decide, by decide⟩ (by decide)) ?_
  refine pe_go (pc := 34) rfl (s_iload_n rfl) ?_
  refine pe_go (pc := 35) rfl (s_sipush (z := 256) rfl) ?_
  refine pe_go rfl (s_icmp_le_f ⟨by decide, by decide⟩ ⟨by decide, by decide⟩ (by decide)) ?_
  refine pe_go (pc := 41) rfl (s_iinc (x := 1) (y := 9) rfl (by omega) (lv' := [(1, .int (iI 9)), (0, .int (iI 8191))]) rfl) ?_
  refine pe_go (pc := 44) rfl (s_iload_n rfl) ?_
  refine pe_go (pc := 45) rfl (s_bipush (z := 8) rfl) ?_
  refine pe_go (pc := 47) rfl s_iushr ?_
  rw [show ((iI 8191).toUInt32 >>> ((iI 8).toUInt32 &&& Int32.toUInt32 31)).toInt32 = iI 31 from by decide]
  refine pe_go (pc := 48) rfl (s_istore_n (lv' := [(0, .int (iI 31)), (1, .int (iI 9))]) rfl) ?_
  refine pe_go (pc := 49) rfl (s_iload_n rfl) ?_
  refine pe_go (pc := 50) rfl (s_bipush (z := 16) rfl) ?_
  refine pe_go rfl (s_icmp_le_f ⟨by decide, by decide⟩ ⟨by decide, by decide⟩ (by decide)) ?_
  refine pe_go (pc := 55) rfl (s_iinc (x := 9) (y := 13) rfl (by omega) (lv' := [(1, .int (iI 13)), (0, .int (iI 31))]) rfl) ?_
  refine pe_go (pc := 58) rfl (s_iload_n rfl) ?_
  refine pe_go (pc := 59) rfl (s_iconst (z := 4) rfl) ?_
  refine pe_go (pc := 60) rfl s_iushr ?_
  rw [show ((iI 31).toUInt32 >>> ((iI 4).toUInt32 &&& Int32.toUInt32 31)).toInt32 = iI 1 from by decide]
  refine pe_go (pc := 61) rfl (s_istore_n (lv' := [(0, .int (iI 1)), (1, .int (iI 13))]) rfl) ?_
  refine pe_go (pc := 62) rfl (s_iload_n rfl) ?_
  refine pe_go (pc := 63) rfl (s_iconst (z := 4) rfl) ?_
  refine pe_go rfl (s_icmp_le_t ⟨by decide, by decide⟩ ⟨by decide, by decide⟩ (by decide)) ?_
  refine pe_go (pc := 74) rfl (s_iload_n rfl) ?_
  refine pe_go (pc := 75) rfl (s_iload_n rfl) ?_
  refine pe_go (pc := 76) rfl (s_iconst (z := 1) rfl) ?_
  refine pe_go (pc := 77) rfl s_iushr ?_
  rw [show ((iI 1).toUInt32 >>> ((iI 1).toUInt32 &&& Int32.toUInt32 31)).toInt32 = iI 0 from by decide]
  refine pe_go (q := (79, [(0, .int (iI 1)), (1, .int (iI 13))], [.int (iI 13)], w)) rfl s_iadd ?_
  exact pe_ret rfl s_reti ⟨rfl, rfl⟩
theorem c_ntz14 (w : pW) {u m : Nat} (hu : u < 2147483647) (hc : u = 2 ^ (14 + 1) * m + (2 ^ 14 - 1)) : pRun 135 [.int (iI (-1 - (u : Int)))] w (some (.int (iI 14))) w := by
  refine qx_run ?_
  refine pc_run (lv := [(0, .int (iI (-1 - (u : Int))))]) rfl ?_
  refine pe_go (pc := 0) rfl (s_iload_n rfl) ?_
  refine pe_go (pc := 1) rfl (s_iconst (z := -1) rfl) ?_
  refine pe_go (pc := 2) rfl s_ixor ?_
  rw [iI_not, show -1 - (-1 - (u : Int)) = (u : Int) by omega]
  refine pe_go (pc := 3) rfl (s_iload_n rfl) ?_
  refine pe_go (pc := 4) rfl (s_iconst (z := 1) rfl) ?_
  refine pe_go (pc := 5) rfl s_isub ?_
  refine pe_go (pc := 6) rfl s_iand ?_
  rw [show -1 - (u : Int) - 1 = -1 - ((u + 1 : Nat) : Int) by omega, ntz_mask hu hc]
  refine pe_go (pc := 7) rfl (s_istore_n (lv' := [(0, .int (iI 16383))]) rfl) ?_
  refine pe_go (pc := 8) rfl (s_iload_n rfl) ?_
  refine pe_go rfl (s_if_gt_t ⟨by decide, by decide⟩ (by decide)) ?_
  refine pe_go (pc := 17) rfl (s_iconst (z := 1) rfl) ?_
  refine pe_go (pc := 18) rfl (s_istore_n (lv' := [(1, .int (iI 1)), (0, .int (iI 16383))]) rfl) ?_
  refine pe_go (pc := 19) rfl (s_iload_n rfl) ?_
  refine pe_go (pc := 20) rfl (s_ldc_w (z := 65536) rfl) ?_
  refine pe_go rfl (s_icmp_le_t ⟨by decide, by decide⟩ ⟨by decide, by decide⟩ (by decide)) ?_
  refine pe_go (pc := 34) rfl (s_iload_n rfl) ?_
  refine pe_go (pc := 35) rfl (s_sipush (z := 256) rfl) ?_
  refine pe_go rfl (s_icmp_le_f ⟨by decide, by decide⟩ ⟨by decide, by decide⟩ (by decide)) ?_
  refine pe_go (pc := 41) rfl (s_iinc (x := 1) (y := 9) rfl (by omega) (lv' := [(1, .int (iI 9)), (0, .int (iI 16383))]) rfl) ?_
  refine pe_go (pc := 44) rfl (s_iload_n rfl) ?_
  refine pe_go (pc := 45) rfl (s_bipush (z := 8) rfl) ?_
  refine pe_go (pc := 47) rfl s_iushr ?_
  rw [show ((iI 16383).toUInt32 >>> ((iI 8).toUInt32 &&& Int32.toUInt32 31)).toInt32 = iI 63 from by decide]
  refine pe_go (pc := 48) rfl (s_istore_n (lv' := [(0, .int (iI 63)), (1, .int (iI 9))]) rfl) ?_
  refine pe_go (pc := 49) rfl (s_iload_n rfl) ?_
  refine pe_go (pc := 50) rfl (s_bipush (z := 16) rfl) ?_
  refine pe_go rfl (s_icmp_le_f ⟨by decide, by decide⟩ ⟨by decide, by decide⟩ (by decide)) ?_
  refine pe_go (pc := 55) rfl (s_iinc (x := 9) (y := 13) rfl (by omega) (lv' := [(1, .int (iI 13)), (0, .int (iI 63))]) rfl) ?_
  refine pe_go (pc := 58) rfl (s_iload_n rfl) ?_
  refine pe_go (pc := 59) rfl (s_iconst (z := 4) rfl) ?_
  refine pe_go (pc := 60) rfl s_iushr ?_
  rw [show ((iI 63).toUInt32 >>> ((iI 4).toUInt32 &&& Int32.toUInt32 31)).toInt32 = iI 3 from by decide]
  refine pe_go (pc := 61) rfl (s_istore_n (lv' := [(0, .int (iI 3)), (1, .int (iI 13))]) rfl) ?_
  refine pe_go (pc := 62) rfl (s_iload_n rfl) ?_
  refine pe_go (pc := 63) rfl (s_iconst (z := 4) rfl) ?_
  refine pe_go rfl (s_icmp_le_t ⟨by decide, by decide⟩ ⟨by decide, by decide⟩ (by decide)) ?_
  refine pe_go (pc := 74) rfl (s_iload_n rfl) ?_
  refine pe_go (pc := 75) rfl (s_iload_n rfl) ?_
  refine pe_go (pc := 76) rfl (s_iconst (z := 1) rfl) ?_
  refine pe_go (pc := 77) rfl s_iushr ?_
  rw [show ((iI 3).toUInt32 >>> ((iI 1).toUInt32 &&& Int32.toUInt32 31)).toInt32 = iI 1 from by decide]
  refine pe_go (q := (79, [(0, .int (iI 3)), (1, .int (iI 13))], [.int (iI 14)], w)) rfl s_iadd ?_
  exact pe_ret rfl s_reti ⟨rfl, rfl⟩
theorem c_ntz (w : pW) {u m c : Nat} (h : c < 15) (hu : u < 2147483647) (hc : u = 2 ^ (c + 1) * m + (2 ^ c - 1)) : pRun 135 [.int (iI (-1 - (u : Int)))] w (some (.int (iI (c : Int)))) w := by
  match c, h, hc with
  | 0, _, hc => exact c_ntz0 w hu hc
  | 1, _, hc => exact c_ntz1 w hu hc
  | 2, _, hc => exact c_ntz2 w hu hc
  | 3, _, hc => exact c_ntz3 w hu hc
  | 4, _, hc => exact c_ntz4 w hu hc
  | 5, _, hc => exact c_ntz5 w hu hc
  | 6, _, hc => exact c_ntz6 w hu hc
  | 7, _, hc => exact c_ntz7 w hu hc
  | 8, _, hc => exact c_ntz8 w hu hc
  | 9, _, hc => exact c_ntz9 w hu hc
  | 10, _, hc => exact c_ntz10 w hu hc
  | 11, _, hc => exact c_ntz11 w hu hc
  | 12, _, hc => exact c_ntz12 w hu hc
  | 13, _, hc => exact c_ntz13 w hu hc
  | 14, _, hc => exact c_ntz14 w hu hc
theorem w_code {pre post : pW} {b : Nat} (hb : pre.length = b) {S : St} {L M : List St} {K : St} {w : pW} (hO : OB pre post b S L M K w) {T : Nat} (hT : S.tn = (T : Int)) (hT2 : T ≤ 74) {t : Nat} (ht : t < T) : pRun 153 [.ref b, .int (iI (t : Int))] w (some (.int (iI (1600 * (S.cn t 0 : Int) + 40 * (S.cn t 1 : Int) + (S.cn t 2 : Int))))) w := by
  refine qx_run ?_
  refine pc_run (lv := [(0, .ref b), (1, .int (iI (t : Int)))]) rfl ?_
  refine pe_go (pc := 0) rfl (s_sipush (z := 1600) rfl) ?_
  refine pe_go (pc := 3) rfl (s_aload_n rfl) ?_
  refine pe_go (pc := 4) rfl (s_iload_n rfl) ?_
  refine pe_go (pc := 5) rfl (s_iconst (z := 0) rfl) ?_
  refine pe_call rfl (s_invV rfl (OB.obj hb hO) rfl rfl) (o_corner hb hO hT hT2 ht (k := 0) (by decide)) ?_
  refine pe_go (pc := 9) rfl s_imul ?_
  refine pe_go (pc := 10) rfl (s_bipush (z := 40) rfl) ?_
  refine pe_go (pc := 12) rfl (s_aload_n rfl) ?_
  refine pe_go (pc := 13) rfl (s_iload_n rfl) ?_
  refine pe_go (pc := 14) rfl (s_iconst (z := 1) rfl) ?_
  refine pe_call rfl (s_invV rfl (OB.obj hb hO) rfl rfl) (o_corner hb hO hT hT2 ht (k := 1) (by decide)) ?_
  refine pe_go (pc := 18) rfl s_imul ?_
  refine pe_go (pc := 19) rfl s_iadd ?_
  refine pe_go (pc := 20) rfl (s_aload_n rfl) ?_
  refine pe_go (pc := 21) rfl (s_iload_n rfl) ?_
  refine pe_go (pc := 22) rfl (s_iconst (z := 2) rfl) ?_
  refine pe_call rfl (s_invV rfl (OB.obj hb hO) rfl rfl) (o_corner hb hO hT hT2 ht (k := 2) (by decide)) ?_
  refine pe_go (pc := 26) rfl s_iadd ?_
  exact pe_ret rfl s_reti ⟨rfl, rfl⟩
