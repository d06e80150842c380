/-! THE JDK: a quotient downward. By hand. -/
theorem msb_lt {x : Int32} : x < 0 ↔ x.toBitVec.msb = true := by
  rw [Int32.lt_iff_toInt_lt, BitVec.msb_eq_toInt]
  show x.toInt < 0 ↔ decide (x.toBitVec.toInt < 0) = true
  rw [decide_eq_true_iff]
  exact Iff.rfl
theorem xor_neg {x y : Int} (hx : sm x) (hy : sm y) (h : 0 ≤ y) : iI x ^^^ iI y < 0 ↔ x < 0 := by
  have h1 : iI x < 0 ↔ x < 0 := by rw [iI_0, iI_lt hx ⟨by decide, by decide⟩]
  have h2 : ¬ iI y < 0 := by rw [iI_0, iI_lt hy ⟨by decide, by decide⟩]; omega
  rw [msb_lt] at h1 h2 ⊢
  show ((iI x).toBitVec ^^^ (iI y).toBitVec).msb = true ↔ _
  rw [BitVec.msb_xor, ← h1]
  have e : (iI y).toBitVec.msb = false := eq_false_of_ne_true h2
  rw [e, Bool.xor_false]
theorem s_ifgeR_t {pc t : Nat} {lv : pLv} {st : List Value} {w : pW} {off : Int} {x : Int32} (h : ¬ x < 0) : pS1 (.ifCond .ge off) pc [t] lv (.int x :: st) w = some (.inl (t, lv, st, w)) := by
  show pBr pc [t] lv st w (decide (0 ≤ x)) = _
  rw [decide_eq_true (Int32.not_lt.mp h)]
  rfl
theorem s_ifgeR_f {pc t : Nat} {lv : pLv} {st : List Value} {w : pW} {off : Int} {x : Int32} (h : x < 0) : pS1 (.ifCond .ge off) pc [t] lv (.int x :: st) w = some (.inl (pc + 3, lv, st, w)) := by
  show pBr pc [t] lv st w (decide (0 ≤ x)) = _
  rw [decide_eq_false (fun z => Int32.not_lt.mpr z h)]
  rfl
theorem c_floorDiv {w : pW} {x y : Int} (hx : sm x) (hy : sm y) (h0 : 0 < y) (hm : -1000000000 ≤ x) (hy2 : y ≤ 1000) : pRun 138 [.int (iI x), .int (iI y)] w (some (.int (iI (x / y)))) w := by
  have hd := Int.tdiv_eq_ediv (a := x) (b := y)
  refine qx_run ?_
  refine pc_run (lv := [(0, .int (iI x)), (1, .int (iI y))]) rfl ?_
  refine pe_go (pc := 0) rfl (s_iload_n rfl) ?_
  refine pe_go (pc := 1) rfl (s_iload_n rfl) ?_
  refine pe_go (pc := 2) rfl (s_idiv hx hy (by omega) (by omega) rfl) ?_
  refine pe_go (pc := 3) rfl (s_istore_n (lv' := [(2, .int (iI (x.tdiv y))), (0, .int (iI x)), (1, .int (iI y))]) rfl) ?_
  refine pe_go (pc := 4) rfl (s_iload_n rfl) ?_
  refine pe_go (pc := 5) rfl (s_iload_n rfl) ?_
  refine pe_go (pc := 6) rfl s_ixor ?_
  by_cases c1 : x < 0
  · refine pe_go (pc := 7) rfl (s_ifgeR_f ((xor_neg hx hy (by omega)).mpr c1)) ?_
    refine pe_go (pc := 10) rfl (s_iload_n rfl) ?_
    refine pe_go (pc := 11) rfl (s_iload_n rfl) ?_
    refine pe_go (pc := 12) rfl s_imul ?_
    refine pe_go (pc := 13) rfl (s_iload_n rfl) ?_
    have hmul := Int.mul_tdiv_add_tmod x y
    have hr1 := Int.tmod_lt_of_pos x h0
    have hr2 := Int.lt_tmod_of_pos x h0
    rw [Int.mul_comm] at hmul
    have hx1 := hx.1
    have hb : sm (x.tdiv y * y) := by
      exact ⟨by omega, by omega⟩
    by_cases c2 : x.tdiv y * y = x
    · refine pe_go (pc := 14) rfl (s_icmp_eq_t hb hx c2) ?_
      refine pe_go (pc := 21) rfl (s_iload_n rfl) ?_
      refine pe_ret rfl s_reti ⟨?_, rfl⟩
      have hdv : y ∣ x := ⟨x.tdiv y, by rw [Int.mul_comm]; exact c2.symm⟩
      rw [hd, if_pos (Or.inr hdv), Int.add_zero]
    · refine pe_go (pc := 14) rfl (s_icmp_eq_f hb hx c2) ?_
      refine pe_go (pc := 17) rfl (s_iload_n rfl) ?_
      refine pe_go (pc := 18) rfl (s_iconst (z := 1) rfl) ?_
      refine pe_go (pc := 19) rfl s_isub ?_
      refine pe_ret rfl s_reti ⟨?_, rfl⟩
      have hnd : ¬ (0 ≤ x ∨ y ∣ x) := by
        rintro (z | ⟨k, hk⟩)
        · omega
        · apply c2
          rw [hk, Int.mul_tdiv_cancel_left _ (by omega), Int.mul_comm]
      rw [hd, if_neg hnd, Int.sign_eq_one_of_pos h0]
      congr 3
      omega
  · refine pe_go (pc := 7) rfl (s_ifgeR_t (fun z => c1 ((xor_neg hx hy (by omega)).mp z))) ?_
    refine pe_go (pc := 21) rfl (s_iload_n rfl) ?_
    refine pe_ret rfl s_reti ⟨?_, rfl⟩
    rw [hd, if_pos (Or.inl (by omega)), Int.add_zero]
/-! points drawn, a mesh refined. Rows laid by program (wip/p63/wk.py, wo.py, mk87.py). -/
def dnx (g : Int) : Int := (g * 827 + 641) % 30047
def dvl (g v : Int) : Int := dnx g % (2 * v + 1) - v
theorem dnx_b (g : Int) : 0 ≤ dnx g ∧ dnx g < 30047 := by unfold dnx; omega
theorem dvl_b {g v : Int} (hv : 1 ≤ v) : -v ≤ dvl g v ∧ dvl g v ≤ v := by
  unfold dvl
  have h1 := Int.emod_nonneg (dnx g) (show 2 * v + 1 ≠ 0 by omega)
  have h2 := Int.emod_lt_of_pos (dnx g) (show 0 < 2 * v + 1 by omega)
  omega
theorem St.lu_lt {S : St} {p : Nat} (h : S.lu = (p : Int)) : p < 40 := by
  obtain ⟨q, h1, -, h2, -⟩ := St.lu_ok (S := S) (by omega)
  omega
/-- a point told, or not: how many came -/
def tell1 (S : St) (x y : Int) (c : Nat) (S' : St) (c' : Nat) : Prop := (S.takes x y ∧ (∃ p : Nat, S.lu = (p : Int) ∧ S.laid S' p x y ∧ (S.u_hs (uZ S.hs p 0)).rst S') ∧ c' = c + 1) ∨ (¬ S.takes x y ∧ S' = S ∧ c' = c)
def drawR (v : Int) : Nat → St → Nat → St → Nat → Prop
  | 0, S, c, S', c' => S' = S ∧ c' = c
  | n + 1, S, c, S', c' => ∃ (S1 : St) (c1 : Nat), S1.Ok ∧ tell1 ((S.u_g (dnx S.g)).u_g (dnx (dnx S.g))) (dvl S.g v) (dvl (dnx S.g) v) c S1 c1 ∧ drawR v n S1 c1 S' c'
theorem l_drawn {pre X : pW} {b : Nat} (hb : pre.length = b) {n : Nat} (hn : n ≤ 20) {v : Int} (hv : 1 ≤ v) (hv2 : v ≤ 1000) : ∀ (d k c : Nat) (S : St), k + d = n → c ≤ k → S.Ok → qE 92 (41, [(4, .int (iI (k : Int))), (0, .ref b), (1, .int (iI (n : Int))), (2, .int (iI v)), (3, .int (iI (c : Int)))], [], ((pre ++ oC (b + 1)) ++ (mB (b + 1) S ++ X))) (fun r w' => ∃ (S' : St) (c' : Nat), drawR v d S c S' c' ∧ r = some (.int (iI (c' : Int))) ∧ S'.Ok ∧ w' = ((pre ++ oC (b + 1)) ++ (mB (b + 1) S' ++ X))) := by
  intro d
  induction d with
  | zero =>
    intro k c S hk hc hS
    refine pe_go (pc := 41) rfl (s_iload rfl) ?_
    refine pe_go (pc := 43) rfl (s_iload_n rfl) ?_
    refine pe_go rfl (s_icmp_ge_t ⟨by omega, by omega⟩ ⟨by omega, by omega⟩ (by omega)) ?_
    refine pe_go (pc := 97) rfl (s_iload_n rfl) ?_
    exact pe_ret rfl s_reti ⟨S, c, ⟨rfl, rfl⟩, rfl, hS, rfl⟩
  | succ d ih =>
    intro k c S hk hc hS
    obtain ⟨hg1, hg2⟩ := hS.2.2.2.2.2.1
    have hd1 := dnx_b S.g
    have hd2 := dnx_b (dnx S.g)
    have hx1 := dvl_b (g := S.g) hv
    have hy1 := dvl_b (g := dnx S.g) hv
    have hO2 : ((S.u_g (dnx S.g)).u_g (dnx (dnx S.g))).Ok := St.Ok_g (St.Ok_g hS hd1.1 hd1.2) hd2.1 hd2.2
    refine pe_go (pc := 41) rfl (s_iload rfl) ?_
    refine pe_go (pc := 43) rfl (s_iload_n rfl) ?_
    refine pe_go rfl (s_icmp_ge_f ⟨by omega, by omega⟩ ⟨by omega, by omega⟩ (by omega)) ?_
    refine pe_go (pc := 47) rfl (s_aload_n rfl) ?_
    refine pe_go (pc := 48) rfl (s_getf (v := .ref (b + 1)) (gO hb) rfl) ?_
    refine pe_go (pc := 51) rfl (s_getf (v := .ref (b + 1 + 1)) (gA0 (oC_len hb) (mB_0 _ _ _)) rfl) ?_
    refine pe_go (pc := 54) rfl (s_iload_n rfl) ?_
    refine pe_call rfl (s_invV rfl (gA (oC_len hb) (mB_1 _ _ _)) rfl rfl) (c_draw (oC_len hb) S (y := v) ⟨hv, hv2⟩ ⟨hg1, hg2⟩) ?_
    refine pe_go (pc := 58) rfl (s_istore (lv' := [(5, .int (iI (dvl S.g v))), (4, .int (iI (k : Int))), (0, .ref b), (1, .int (iI (n : Int))), (2, .int (iI v)), (3, .int (iI (c : Int)))]) rfl) ?_
    refine pe_go (pc := 60) rfl (s_aload_n rfl) ?_
    refine pe_go (pc := 61) rfl (s_getf (v := .ref (b + 1)) (gO hb) rfl) ?_
    refine pe_go (pc := 64) rfl (s_getf (v := .ref (b + 1 + 1)) (gA0 (oC_len hb) (mB_0 _ _ _)) rfl) ?_
    refine pe_go (pc := 67) rfl (s_iload_n rfl) ?_
    refine pe_call rfl (s_invV rfl (gA (oC_len hb) (mB_1 _ _ _)) rfl rfl) (c_draw (oC_len hb) (S.u_g (dnx S.g)) (y := v) ⟨hv, hv2⟩ hd1) ?_
    refine pe_go (pc := 71) rfl (s_istore (lv' := [(6, .int (iI (dvl (dnx S.g) v))), (5, .int (iI (dvl S.g v))), (4, .int (iI (k : Int))), (0, .ref b), (1, .int (iI (n : Int))), (2, .int (iI v)), (3, .int (iI (c : Int)))]) rfl) ?_
    refine pe_go (pc := 73) rfl (s_aload_n rfl) ?_
    refine pe_go (pc := 74) rfl (s_getf (v := .ref (b + 1)) (gO hb) rfl) ?_
    refine pe_go (pc := 77) rfl (s_iload rfl) ?_
    refine pe_go (pc := 79) rfl (s_iload rfl) ?_
    by_cases ht1 : St.takes ((S.u_g (dnx S.g)).u_g (dnx (dnx S.g))) (dvl S.g v) (dvl (dnx S.g) v)
    · skip
      refine pe_callE rfl (s_invV rfl (gA0 (oC_len hb) (mB_0 _ _ _)) rfl rfl) (k_tell (oC_len hb) hO2 (x := (dvl S.g v)) (y := (dvl (dnx S.g) v)) ht1) ?_
      rintro _ _ ⟨p1, hlu1, rfl, R1, hR1, hl1, hr1, rfl⟩
      have hp1 := St.lu_lt hlu1
      refine pe_go (pc := 84) rfl (s_iconst (z := -1) rfl) ?_
      refine pe_go rfl (s_icmp_eq_f ⟨by omega, by omega⟩ ⟨by decide, by decide⟩ (by omega)) ?_
      refine pe_go (pc := 88) rfl (s_iinc (x := (c : Int)) (y := ((c + 1 : Nat) : Int)) rfl (by omega) (lv' := [(3, .int (iI ((c + 1 : Nat) : Int))), (6, .int (iI (dvl (dnx S.g) v))), (5, .int (iI (dvl S.g v))), (4, .int (iI (k : Int))), (0, .ref b), (1, .int (iI (n : Int))), (2, .int (iI v))]) rfl) ?_
      refine pe_go (pc := 91) rfl (s_iinc (x := (k : Int)) (y := ((k + 1 : Nat) : Int)) rfl (by omega) (lv' := [(4, .int (iI ((k + 1 : Nat) : Int))), (3, .int (iI ((c + 1 : Nat) : Int))), (6, .int (iI (dvl (dnx S.g) v))), (5, .int (iI (dvl S.g v))), (0, .ref b), (1, .int (iI (n : Int))), (2, .int (iI v))]) rfl) ?_
      refine pe_go (pc := 94) rfl s_goto ?_
      refine pe_few (lv := [(4, .int (iI ((k + 1 : Nat) : Int))), (0, .ref b), (1, .int (iI (n : Int))), (2, .int (iI v)), (3, .int (iI ((c + 1 : Nat) : Int)))]) rfl rfl (by intro q hq; simp only [List.mem_cons, List.not_mem_nil, or_false] at hq; rcases hq with rfl | rfl | rfl | rfl | rfl <;> rfl) ?_
      refine pe_mono (fun r9 w9 z9 => ?_) (ih (k + 1) (c + 1) R1 (by omega) (by omega) hR1)
      obtain ⟨S9, c9, g1, g2, g3, g4⟩ := z9
      exact ⟨S9, c9, ⟨R1, c + 1, hR1, Or.inl ⟨ht1, ⟨p1, hlu1, hl1, hr1⟩, rfl⟩, g1⟩, g2, g3, g4⟩
    · skip
      refine pe_call rfl (s_invV rfl (gA0 (oC_len hb) (mB_0 _ _ _)) rfl rfl) (c_tellNo (oC_len hb) ((S.u_g (dnx S.g)).u_g (dnx (dnx S.g))) ⟨by omega, by omega⟩ ⟨by omega, by omega⟩ (St.Ok.B hO2) ht1) ?_
      refine pe_go (pc := 84) rfl (s_iconst (z := -1) rfl) ?_
      refine pe_go rfl (s_icmp_eq_t ⟨by decide, by decide⟩ ⟨by decide, by decide⟩ (by decide)) ?_
      refine pe_go (pc := 91) rfl (s_iinc (x := (k : Int)) (y := ((k + 1 : Nat) : Int)) rfl (by omega) (lv' := [(4, .int (iI ((k + 1 : Nat) : Int))), (6, .int (iI (dvl (dnx S.g) v))), (5, .int (iI (dvl S.g v))), (0, .ref b), (1, .int (iI (n : Int))), (2, .int (iI v)), (3, .int (iI (c : Int)))]) rfl) ?_
      refine pe_go (pc := 94) rfl s_goto ?_
      refine pe_few (lv := [(4, .int (iI ((k + 1 : Nat) : Int))), (0, .ref b), (1, .int (iI (n : Int))), (2, .int (iI v)), (3, .int (iI (c : Int)))]) rfl rfl (by intro q hq; simp only [List.mem_cons, List.not_mem_nil, or_false] at hq; rcases hq with rfl | rfl | rfl | rfl | rfl <;> rfl) ?_
      refine pe_mono (fun r9 w9 z9 => ?_) (ih (k + 1) c ((S.u_g (dnx S.g)).u_g (dnx (dnx S.g))) (by omega) (by omega) hO2)
      obtain ⟨S9, c9, g1, g2, g3, g4⟩ := z9
      exact ⟨S9, c9, ⟨((S.u_g (dnx S.g)).u_g (dnx (dnx S.g))), c, hO2, Or.inr ⟨ht1, rfl, rfl⟩, g1⟩, g2, g3, g4⟩
theorem o_drawn {pre post : pW} {b : Nat} (hb : pre.length = b) {S : St} {L M : List St} {K : St} {w : pW} (hO : OB pre post b S L M K w) {n : Nat} (hn0 : 1 ≤ n) (hn : n ≤ 20) {v : Int} (hv : 1 ≤ v) (hv2 : v ≤ 1000) : qC 92 [.ref b, .int (iI (n : Int)), .int (iI v)] w (fun r w' => ∃ (S' : St) (c : Nat), drawR v n S 0 S' c ∧ r = some (.int (iI (c : Int))) ∧ OB pre post b S' (pshL S L) M K w') := by
  obtain ⟨hS, hLo, hLl, hMo, hMl, pn, pb, rn, rb, cl, kp, kr, rfl⟩ := hO
  refine pc_run (lv := [(0, .ref b), (1, .int (iI (n : Int))), (2, .int (iI v))]) rfl ?_
  refine pe_go (pc := 0) rfl (s_iload_n rfl) ?_
  refine pe_go (pc := 1) rfl (s_iconst (z := 1) rfl) ?_
  refine pe_go rfl (s_icmp_lt_f ⟨by omega, by omega⟩ ⟨by decide, by decide⟩ (by omega)) ?_
  refine pe_go (pc := 5) rfl (s_iload_n rfl) ?_
  refine pe_go (pc := 6) rfl (s_bipush (z := 20) rfl) ?_
  refine pe_go rfl (s_icmp_gt_f ⟨by omega, by omega⟩ ⟨by decide, by decide⟩ (by omega)) ?_
  refine pe_go (pc := 11) rfl (s_iload_n rfl) ?_
  refine pe_go (pc := 12) rfl (s_iconst (z := 1) rfl) ?_
  refine pe_go rfl (s_icmp_lt_f ⟨by omega, by omega⟩ ⟨by decide, by decide⟩ (by omega)) ?_
  refine pe_go (pc := 16) rfl (s_iload_n rfl) ?_
  refine pe_go (pc := 17) rfl (s_sipush (z := 1000) rfl) ?_
  refine pe_go rfl (s_icmp_le_t ⟨by omega, by omega⟩ ⟨by decide, by decide⟩ (by omega)) ?_
  refine pe_go (pc := 25) rfl (s_aload_n rfl) ?_
  refine pe_go (pc := 26) rfl (s_getf (v := .ref (b + 1 + 34)) (gO hb) rfl) ?_
  refine pe_go (pc := 29) rfl (s_aload_n rfl) ?_
  refine pe_go (pc := 30) rfl (s_getf (v := .ref (b + 1)) (gO hb) rfl) ?_
  refine pe_call rfl (s_invV rfl (gA (oC_len hb) oX_P) rfl rfl) (c_push hb S (k := L.length) hLl) ?_
  refine pe_go (pc := 36) rfl (s_iconst (z := 0) rfl) ?_
  refine pe_go (pc := 37) rfl (s_istore_n (lv' := [(3, .int (iI 0)), (0, .ref b), (1, .int (iI (n : Int))), (2, .int (iI v))]) rfl) ?_
  refine pe_go (pc := 38) rfl (s_iconst (z := 0) rfl) ?_
  refine pe_go (pc := 39) rfl (s_istore (lv' := [(4, .int (iI 0)), (3, .int (iI 0)), (0, .ref b), (1, .int (iI (n : Int))), (2, .int (iI v))]) rfl) ?_
  refine pe_few (lv := [(4, .int (iI ((0 : Nat) : Int))), (0, .ref b), (1, .int (iI (n : Int))), (2, .int (iI v)), (3, .int (iI ((0 : Nat) : Int)))]) rfl rfl (by intro q hq; simp only [List.mem_cons, List.not_mem_nil, or_false] at hq; rcases hq with rfl | rfl | rfl | rfl | rfl <;> rfl) ?_
  refine pe_mono (fun r9 w9 z9 => ?_) (l_drawn hb hn hv hv2 n 0 0 S (by omega) (Nat.le_refl _) hS)
  obtain ⟨S9, c9, g1, g2, g3, rfl⟩ := z9
  exact ⟨S9, c9, g1, g2, OB_push hS g3 hLo hLl hMo hMl kp kr⟩
theorem St.thF_lt (S : St) : ∀ (n t b : Nat), b < t → S.thF n t b < t + n ∨ S.thF n t b = b := by
  intro n
  induction n with
  | zero => intro t b hb; exact Or.inr rfl
  | succ n ih =>
    intro t b hb
    by_cases c : S.ar t * S.lq b < S.ar b * S.lq t
    · rw [St.thF_y c]
      rcases ih (t + 1) t (by omega) with h | h
      · exact Or.inl (by omega)
      · exact Or.inl (by omega)
    · rw [St.thF_n c]
      rcases ih (t + 1) b (by omega) with h | h
      · exact Or.inl (by omega)
      · exact Or.inr h
/-- where a mesh is refined: half way along the longest side of the thinnest triangle -/
def St.rfA (S : St) : Nat := S.cn (S.thF (S.tn.toNat - 1) 1 0) (S.lgs (S.thF (S.tn.toNat - 1) 1 0))
def St.rfB (S : St) : Nat := S.cn (S.thF (S.tn.toNat - 1) 1 0) ((S.lgs (S.thF (S.tn.toNat - 1) 1 0) + 1) % 3)
def St.rfX (S : St) : Int := (S.xs S.rfA + S.xs S.rfB) / 2
def St.rfY (S : St) : Int := (S.ys S.rfA + S.ys S.rfB) / 2
def refR : Nat → St → Nat → St → Nat → Prop
  | 0, S, c, S', c' => S' = S ∧ c' = c
  | n + 1, S, c, S', c' => (S.takes S.rfX S.rfY ∧ ∃ S1 : St, S1.Ok ∧ (∃ p : Nat, S.lu = (p : Int) ∧ S.laid S1 p S.rfX S.rfY ∧ (S.u_hs (uZ S.hs p 0)).rst S1) ∧ refR n S1 (c + 1) S' c') ∨ (¬ S.takes S.rfX S.rfY ∧ S' = S ∧ c' = c)
theorem St.Ok.T0 {S : St} (h : S.Ok) : ∃ T : Nat, S.tn = (T : Int) ∧ T ≤ 74 ∧ 0 < T := by
  obtain ⟨T, hT, hT2⟩ := h.T
  obtain ⟨t, a, b, c, ht, -⟩ := St.where_ok h.M.1 h.2.2.1 hT (x := 0) (y := 0) (by unfold inSq; omega)
  exact ⟨T, hT, hT2, by omega⟩
theorem k_refine {pre X : pW} {b : Nat} (hb : pre.length = b) {S : St} (hS : S.Ok) : qC 95 [.ref b] ((pre ++ oC (b + 1)) ++ (mB (b + 1) S ++ X)) (fun r w' => (S.takes S.rfX S.rfY ∧ r = some (.int (bI true)) ∧ ∃ (R : St) (p : Nat), S.lu = (p : Int) ∧ R.Ok ∧ S.laid R p S.rfX S.rfY ∧ (S.u_hs (uZ S.hs p 0)).rst R ∧ w' = ((pre ++ oC (b + 1)) ++ (mB (b + 1) R ++ X))) ∨ (¬ S.takes S.rfX S.rfY ∧ r = some (.int (bI false)) ∧ w' = ((pre ++ oC (b + 1)) ++ (mB (b + 1) S ++ X)))) := by
  obtain ⟨T, hT, hT2, hT0⟩ := hS.T0
  obtain ⟨t9, et⟩ : ∃ t9 : Nat, t9 = S.thF (T - 1) 1 0 := ⟨_, rfl⟩
  have ht9 : t9 < 74 := by have := S.thF_lt (T - 1) 1 0 (by decide); omega
  obtain ⟨k9, ek⟩ : ∃ k9 : Nat, k9 = S.lgs t9 := ⟨_, rfl⟩
  have hk9 : k9 < 3 := by rw [ek]; exact S.lgs_lt t9
  obtain ⟨a9, ea⟩ : ∃ a9 : Nat, a9 = S.cn t9 k9 := ⟨_, rfl⟩
  obtain ⟨b9, eb⟩ : ∃ b9 : Nat, b9 = S.cn t9 ((k9 + 1) % 3) := ⟨_, rfl⟩
  have ha9 : a9 < 40 := by rw [ea]; exact St.cn_lt hS.I.CN.1 (by omega)
  have hb9 : b9 < 40 := by rw [eb]; exact St.cn_lt hS.I.CN.1 (by omega)
  have hBa := hS.B a9 ha9
  have hBb := hS.B b9 hb9
  have eTn : S.tn.toNat = T := by rw [hT]; rfl
  have eX : S.rfX = (S.xs a9 + S.xs b9) / 2 := by unfold St.rfX St.rfA St.rfB; rw [eTn, ← et, ← ek, ← ea, ← eb]
  have eY : S.rfY = (S.ys a9 + S.ys b9) / 2 := by unfold St.rfY St.rfA St.rfB; rw [eTn, ← et, ← ek, ← ea, ← eb]
  refine pc_run (lv := [(0, .ref b)]) rfl ?_
  refine pe_go (pc := 0) rfl (s_aload_n rfl) ?_
  refine pe_go (pc := 1) rfl (s_getf (v := .ref (b + 1)) (gO hb) rfl) ?_
  refine pe_go (pc := 4) rfl (s_getf (v := .ref (b + 1 + 1)) (gA0 (oC_len hb) (mB_0 _ _ _)) rfl) ?_
  refine pe_go (pc := 7) rfl (s_astore_n (lv' := [(1, .ref (b + 1 + 1)), (0, .ref b)]) rfl) ?_
  refine pe_go (pc := 8) rfl (s_aload_n rfl) ?_
  refine pe_go (pc := 9) rfl (s_getf (v := .ref (b + 1)) (gO hb) rfl) ?_
  refine pe_call rfl (s_invV rfl (gA0 (oC_len hb) (mB_0 _ _ _)) rfl rfl) (c_thinnest (oC_len hb) S hT hT2 hT0 hS.I.CN.1 hS.B) ?_
  rw [← et]
  refine pe_go (pc := 15) rfl (s_istore_n (lv' := [(2, .int (iI (t9 : Int))), (1, .ref (b + 1 + 1)), (0, .ref b)]) rfl) ?_
  refine pe_go (pc := 16) rfl (s_aload_n rfl) ?_
  refine pe_go (pc := 17) rfl (s_getf (v := .ref (b + 1)) (gO hb) rfl) ?_
  refine pe_go (pc := 20) rfl (s_iload_n rfl) ?_
  refine pe_call rfl (s_invV rfl (gA0 (oC_len hb) (mB_0 _ _ _)) rfl rfl) (c_longest (oC_len hb) S (t := t9) ht9 hS.I.CN.1 hS.B) ?_
  rw [← ek]
  refine pe_go (pc := 24) rfl (s_istore_n (lv' := [(3, .int (iI (k9 : Int))), (2, .int (iI (t9 : Int))), (1, .ref (b + 1 + 1)), (0, .ref b)]) rfl) ?_
  refine pe_go (pc := 25) rfl (s_aload_n rfl) ?_
  refine pe_go (pc := 26) rfl (s_getf (v := .ref (b + 1)) (gO hb) rfl) ?_
  refine pe_go (pc := 29) rfl (s_iload_n rfl) ?_
  refine pe_go (pc := 30) rfl (s_iload_n rfl) ?_
  refine pe_call rfl (s_invV rfl (gA0 (oC_len hb) (mB_0 _ _ _)) rfl rfl) (c_cornerOf (oC_len hb) S (t := t9) (k := k9) (by omega) hS.I.CN.1) ?_
  rw [← ea]
  refine pe_go (pc := 34) rfl (s_istore (lv' := [(4, .int (iI (a9 : Int))), (3, .int (iI (k9 : Int))), (2, .int (iI (t9 : Int))), (1, .ref (b + 1 + 1)), (0, .ref b)]) rfl) ?_
  refine pe_go (pc := 36) rfl (s_aload_n rfl) ?_
  refine pe_go (pc := 37) rfl (s_getf (v := .ref (b + 1)) (gO hb) rfl) ?_
  refine pe_go (pc := 40) rfl (s_iload_n rfl) ?_
  refine pe_go (pc := 41) rfl (s_iload_n rfl) ?_
  refine pe_go (pc := 42) rfl (s_iconst (z := 1) rfl) ?_
  refine pe_go (pc := 43) rfl s_iadd ?_
  refine pe_go (pc := 44) rfl (s_iconst (z := 3) rfl) ?_
  refine pe_go (pc := 45) rfl (s_irem ⟨by omega, by omega⟩ ⟨by decide, by decide⟩ (by decide) (by omega) (Int.tmod_eq_emod_of_nonneg (by omega))) ?_
  refine pe_call rfl (s_invV rfl (gA0 (oC_len hb) (mB_0 _ _ _)) rfl rfl) (c_cornerOf (oC_len hb) S (t := t9) (k := (k9 + 1) % 3) (by omega) hS.I.CN.1) ?_
  rw [← eb]
  refine pe_go (pc := 49) rfl (s_istore (lv' := [(5, .int (iI (b9 : Int))), (4, .int (iI (a9 : Int))), (3, .int (iI (k9 : Int))), (2, .int (iI (t9 : Int))), (1, .ref (b + 1 + 1)), (0, .ref b)]) rfl) ?_
  refine pe_go (pc := 51) rfl (s_aload_n rfl) ?_
  refine pe_go (pc := 52) rfl (s_getf (v := .ref (b + 1 + 2)) (gA (oC_len hb) (mB_1 _ _ _)) rfl) ?_
  refine pe_go (pc := 55) rfl (s_iload rfl) ?_
  refine pe_go (pc := 57) rfl (s_iald (n := 40) (f := S.xs) (v := S.xs a9) (gA (oC_len hb) (mB_xs _ _ _)) (k := a9) (by omega) (by omega) (by decide) rfl) ?_
  refine pe_go (pc := 58) rfl (s_aload_n rfl) ?_
  refine pe_go (pc := 59) rfl (s_getf (v := .ref (b + 1 + 2)) (gA (oC_len hb) (mB_1 _ _ _)) rfl) ?_
  refine pe_go (pc := 62) rfl (s_iload rfl) ?_
  refine pe_go (pc := 64) rfl (s_iald (n := 40) (f := S.xs) (v := S.xs b9) (gA (oC_len hb) (mB_xs _ _ _)) (k := b9) (by omega) (by omega) (by decide) rfl) ?_
  refine pe_go (pc := 65) rfl s_iadd ?_
  refine pe_go (pc := 66) rfl (s_iconst (z := 2) rfl) ?_
  refine pe_call rfl (s_invS rfl rfl rfl) (c_floorDiv (x := S.xs a9 + S.xs b9) (y := 2) ⟨by omega, by omega⟩ ⟨by decide, by decide⟩ (by decide) (by omega) (by decide)) ?_
  refine pe_go (pc := 70) rfl (s_istore (lv' := [(6, .int (iI ((S.xs a9 + S.xs b9) / 2))), (5, .int (iI (b9 : Int))), (4, .int (iI (a9 : Int))), (3, .int (iI (k9 : Int))), (2, .int (iI (t9 : Int))), (1, .ref (b + 1 + 1)), (0, .ref b)]) rfl) ?_
  refine pe_go (pc := 72) rfl (s_aload_n rfl) ?_
  refine pe_go (pc := 73) rfl (s_getf (v := .ref (b + 1 + 3)) (gA (oC_len hb) (mB_1 _ _ _)) rfl) ?_
  refine pe_go (pc := 76) rfl (s_iload rfl) ?_
  refine pe_go (pc := 78) rfl (s_iald (n := 40) (f := S.ys) (v := S.ys a9) (gA (oC_len hb) (mB_ys _ _ _)) (k := a9) (by omega) (by omega) (by decide) rfl) ?_
  refine pe_go (pc := 79) rfl (s_aload_n rfl) ?_
  refine pe_go (pc := 80) rfl (s_getf (v := .ref (b + 1 + 3)) (gA (oC_len hb) (mB_1 _ _ _)) rfl) ?_
  refine pe_go (pc := 83) rfl (s_iload rfl) ?_
  refine pe_go (pc := 85) rfl (s_iald (n := 40) (f := S.ys) (v := S.ys b9) (gA (oC_len hb) (mB_ys _ _ _)) (k := b9) (by omega) (by omega) (by decide) rfl) ?_
  refine pe_go (pc := 86) rfl s_iadd ?_
  refine pe_go (pc := 87) rfl (s_iconst (z := 2) rfl) ?_
  refine pe_call rfl (s_invS rfl rfl rfl) (c_floorDiv (x := S.ys a9 + S.ys b9) (y := 2) ⟨by omega, by omega⟩ ⟨by decide, by decide⟩ (by decide) (by omega) (by decide)) ?_
  refine pe_go (pc := 91) rfl (s_istore (lv' := [(7, .int (iI ((S.ys a9 + S.ys b9) / 2))), (6, .int (iI ((S.xs a9 + S.xs b9) / 2))), (5, .int (iI (b9 : Int))), (4, .int (iI (a9 : Int))), (3, .int (iI (k9 : Int))), (2, .int (iI (t9 : Int))), (1, .ref (b + 1 + 1)), (0, .ref b)]) rfl) ?_
  refine pe_go (pc := 93) rfl (s_aload_n rfl) ?_
  refine pe_go (pc := 94) rfl (s_getf (v := .ref (b + 1)) (gO hb) rfl) ?_
  refine pe_go (pc := 97) rfl (s_iload rfl) ?_
  refine pe_go (pc := 99) rfl (s_iload rfl) ?_
  by_cases ht1 : St.takes S ((S.xs a9 + S.xs b9) / 2) ((S.ys a9 + S.ys b9) / 2)
  · skip
    refine pe_callE rfl (s_invV rfl (gA0 (oC_len hb) (mB_0 _ _ _)) rfl rfl) (k_tell (oC_len hb) hS (x := ((S.xs a9 + S.xs b9) / 2)) (y := ((S.ys a9 + S.ys b9) / 2)) ht1) ?_
    rintro _ _ ⟨p1, hlu1, rfl, R1, hR1, hl1, hr1, rfl⟩
    have hp1 := St.lu_lt hlu1
    refine pe_go (pc := 104) rfl (s_iconst (z := -1) rfl) ?_
    refine pe_go rfl (s_icmp_eq_f ⟨by omega, by omega⟩ ⟨by decide, by decide⟩ (by omega)) ?_
    refine pe_go (pc := 108) rfl (s_iconst (z := 1) rfl) ?_
    refine pe_go (pc := 109) rfl s_goto ?_
    exact pe_ret rfl s_ret1 (Or.inl ⟨by rw [eX, eY]; exact ht1, rfl, R1, p1, hlu1, hR1, by rw [eX, eY]; exact hl1, hr1, rfl⟩)
  · skip
    refine pe_call rfl (s_invV rfl (gA0 (oC_len hb) (mB_0 _ _ _)) rfl rfl) (c_tellNo (oC_len hb) S ⟨by omega, by omega⟩ ⟨by omega, by omega⟩ (St.Ok.B hS) ht1) ?_
    refine pe_go (pc := 104) rfl (s_iconst (z := -1) rfl) ?_
    refine pe_go rfl (s_icmp_eq_t ⟨by decide, by decide⟩ ⟨by decide, by decide⟩ (by decide)) ?_
    refine pe_go (pc := 112) rfl (s_iconst (z := 0) rfl) ?_
    exact pe_ret rfl s_ret0 (Or.inr ⟨by rw [eX, eY]; exact ht1, rfl, rfl⟩)
theorem l_refine {pre X : pW} {b : Nat} (hb : pre.length = b) {n : Nat} (hn : n ≤ 10) : ∀ (d k c : Nat) (S : St), k + d = n → c ≤ k → S.Ok → qE 94 (28, [(3, .int (iI (k : Int))), (0, .ref b), (1, .int (iI (n : Int))), (2, .int (iI (c : Int)))], [], ((pre ++ oC (b + 1)) ++ (mB (b + 1) S ++ X))) (fun r w' => ∃ (S' : St) (c' : Nat), refR d S c S' c' ∧ r = some (.int (iI (c' : Int))) ∧ S'.Ok ∧ w' = ((pre ++ oC (b + 1)) ++ (mB (b + 1) S' ++ X))) := by
  intro d
  induction d with
  | zero =>
    intro k c S hk hc hS
    refine pe_go (pc := 28) rfl (s_iload_n rfl) ?_
    refine pe_go (pc := 29) rfl (s_iload_n rfl) ?_
    refine pe_go rfl (s_icmp_ge_t ⟨by omega, by omega⟩ ⟨by omega, by omega⟩ (by omega)) ?_
    refine pe_go (pc := 52) rfl (s_iload_n rfl) ?_
    exact pe_ret rfl s_reti ⟨S, c, ⟨rfl, rfl⟩, rfl, hS, rfl⟩
  | succ d ih =>
    intro k c S hk hc hS
    refine pe_go (pc := 28) rfl (s_iload_n rfl) ?_
    refine pe_go (pc := 29) rfl (s_iload_n rfl) ?_
    refine pe_go rfl (s_icmp_ge_f ⟨by omega, by omega⟩ ⟨by omega, by omega⟩ (by omega)) ?_
    refine pe_go (pc := 33) rfl (s_aload_n rfl) ?_
    refine pe_callE rfl (s_invV rfl (gO hb) rfl rfl) (k_refine hb hS) ?_
    rintro _ _ (⟨ht1, rfl, R1, p1, hlu1, hR1, hl1, hr1, rfl⟩ | ⟨ht1, rfl, rfl⟩)
    · skip
      refine pe_go rfl (s_ifne_true rfl) ?_
      refine pe_go (pc := 43) rfl (s_iinc (x := (c : Int)) (y := ((c + 1 : Nat) : Int)) rfl (by omega) (lv' := [(2, .int (iI ((c + 1 : Nat) : Int))), (3, .int (iI (k : Int))), (0, .ref b), (1, .int (iI (n : Int)))]) rfl) ?_
      refine pe_go (pc := 46) rfl (s_iinc (x := (k : Int)) (y := ((k + 1 : Nat) : Int)) rfl (by omega) (lv' := [(3, .int (iI ((k + 1 : Nat) : Int))), (2, .int (iI ((c + 1 : Nat) : Int))), (0, .ref b), (1, .int (iI (n : Int)))]) rfl) ?_
      refine pe_go (pc := 49) rfl s_goto ?_
      refine pe_few (lv := [(3, .int (iI ((k + 1 : Nat) : Int))), (0, .ref b), (1, .int (iI (n : Int))), (2, .int (iI ((c + 1 : Nat) : Int)))]) rfl rfl (by intro q hq; simp only [List.mem_cons, List.not_mem_nil, or_false] at hq; rcases hq with rfl | rfl | rfl | rfl <;> rfl) ?_
      refine pe_mono (fun r9 w9 z9 => ?_) (ih (k + 1) (c + 1) R1 (by omega) (by omega) hR1)
      obtain ⟨S9, c9, g1, g2, g3, g4⟩ := z9
      exact ⟨S9, c9, Or.inl ⟨ht1, R1, hR1, ⟨p1, hlu1, hl1, hr1⟩, g1⟩, g2, g3, g4⟩
    · skip
      refine pe_go rfl (s_ifne_false rfl) ?_
      refine pe_go (pc := 40) rfl s_goto ?_
      refine pe_go (pc := 52) rfl (s_iload_n rfl) ?_
      exact pe_ret rfl s_reti ⟨S, c, Or.inr ⟨ht1, rfl, rfl⟩, rfl, hS, rfl⟩
theorem o_refine {pre post : pW} {b : Nat} (hb : pre.length = b) {S : St} {L M : List St} {K : St} {w : pW} (hO : OB pre post b S L M K w) {n : Nat} (hn0 : 1 ≤ n) (hn : n ≤ 10) : qC 94 [.ref b, .int (iI (n : Int))] w (fun r w' => ∃ (S' : St) (c : Nat), refR n S 0 S' c ∧ r = some (.int (iI (c : Int))) ∧ OB pre post b S' (pshL S L) M K w') := by
  obtain ⟨hS, hLo, hLl, hMo, hMl, pn, pb, rn, rb, cl, kp, kr, rfl⟩ := hO
  refine pc_run (lv := [(0, .ref b), (1, .int (iI (n : Int)))]) rfl ?_
  refine pe_go (pc := 0) rfl (s_iload_n rfl) ?_
  refine pe_go (pc := 1) rfl (s_iconst (z := 1) rfl) ?_
  refine pe_go rfl (s_icmp_lt_f ⟨by omega, by omega⟩ ⟨by decide, by decide⟩ (by omega)) ?_
  refine pe_go (pc := 5) rfl (s_iload_n rfl) ?_
  refine pe_go (pc := 6) rfl (s_bipush (z := 10) rfl) ?_
  refine pe_go rfl (s_icmp_le_t ⟨by omega, by omega⟩ ⟨by decide, by decide⟩ (by omega)) ?_
  refine pe_go (pc := 13) rfl (s_aload_n rfl) ?_
  refine pe_go (pc := 14) rfl (s_getf (v := .ref (b + 1 + 34)) (gO hb) rfl) ?_
  refine pe_go (pc := 17) rfl (s_aload_n rfl) ?_
  refine pe_go (pc := 18) rfl (s_getf (v := .ref (b + 1)) (gO hb) rfl) ?_
  refine pe_call rfl (s_invV rfl (gA (oC_len hb) oX_P) rfl rfl) (c_push hb S (k := L.length) hLl) ?_
  refine pe_go (pc := 24) rfl (s_iconst (z := 0) rfl) ?_
  refine pe_go (pc := 25) rfl (s_istore_n (lv' := [(2, .int (iI 0)), (0, .ref b), (1, .int (iI (n : Int)))]) rfl) ?_
  refine pe_go (pc := 26) rfl (s_iconst (z := 0) rfl) ?_
  refine pe_go (pc := 27) rfl (s_istore_n (lv' := [(3, .int (iI 0)), (2, .int (iI 0)), (0, .ref b), (1, .int (iI (n : Int)))]) rfl) ?_
  refine pe_few (lv := [(3, .int (iI ((0 : Nat) : Int))), (0, .ref b), (1, .int (iI (n : Int))), (2, .int (iI ((0 : Nat) : Int)))]) rfl rfl (by intro q hq; simp only [List.mem_cons, List.not_mem_nil, or_false] at hq; rcases hq with rfl | rfl | rfl | rfl <;> rfl) ?_
  refine pe_mono (fun r9 w9 z9 => ?_) (l_refine hb hn n 0 0 S (by omega) (Nat.le_refl _) hS)
  obtain ⟨S9, c9, g1, g2, g3, rfl⟩ := z9
  exact ⟨S9, c9, g1, g2, OB_push hS g3 hLo hLl hMo hMl kp kr⟩
