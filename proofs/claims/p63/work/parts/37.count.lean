/-! THE CLASS: longest sides, the thinnest triangle, counts, who is in sight. Rows laid by program (wip/p63/wk.py, mk37.py). -/
/-- the square of a side; the longest side; twice the area; the square of the longest side -/
def St.qs (S : St) (t k : Nat) : Int := S.sq (S.cn t k) (S.cn t ((k + 1) % 3))
def St.lgs (S : St) (t : Nat) : Nat := if S.qs t 0 < S.qs t 1 then (if S.qs t 1 < S.qs t 2 then 2 else 1) else (if S.qs t 0 < S.qs t 2 then 2 else 0)
def St.ar (S : St) (t : Nat) : Int := S.sd3 (S.cn t 0) (S.cn t 1) (S.cn t 2)
def St.lq (S : St) (t : Nat) : Int := S.qs t (S.lgs t)
theorem St.lgs_lt (S : St) (t : Nat) : S.lgs t < 3 := by
  unfold St.lgs
  split <;> split <;> decide
theorem St.qs_b {S : St} (h : S.inB) (hC : S.okC) {t k : Nat} (ht : t < 74) (hk : k < 3) : 0 ≤ S.qs t k ∧ S.qs t k ≤ 8000000 := S.sq_b h (St.cn_lt hC (by omega)) (St.cn_lt hC (by omega))
theorem St.lq_b {S : St} (h : S.inB) (hC : S.okC) {t : Nat} (ht : t < 74) : 0 ≤ S.lq t ∧ S.lq t ≤ 8000000 := St.qs_b h hC ht (S.lgs_lt t)
theorem St.ar_b {S : St} (h : S.inB) (hC : S.okC) {t : Nat} (ht : t < 74) : -8000000 ≤ S.ar t ∧ S.ar t ≤ 8000000 := S.sd3_b h (St.cn_lt hC (by omega)) (St.cn_lt hC (by omega)) (St.cn_lt hC (by omega))
theorem St.thin_sl {S : St} (h : S.inB) (hC : S.okC) {t b : Nat} (ht : t < 74) (hb : b < 74) : sl (S.ar t * S.lq b) := by
  have e1 := St.ar_b h hC ht
  have e2 := St.lq_b h hC hb
  have := mul_b (x := S.ar t) (y := S.lq b) (a := 8000000) (b := 8000000) e1.1 e1.2 (by omega) e2.2
  constructor <;> omega
theorem St.lq_max {S : St} {t k : Nat} (hk : k < 3) : S.qs t k ≤ S.lq t := by
  have hk3 : k = 0 ∨ k = 1 ∨ k = 2 := by omega
  unfold St.lq St.lgs
  split <;> split <;> rcases hk3 with rfl | rfl | rfl <;> omega
theorem c_sideQ {pre post : pW} {m : Nat} (hm : pre.length = m) (S : St) {t k : Nat} (ht : t < 74) (hk : k < 3) (hC : S.okC) : pRun 36 [.ref m, .int (iI (t : Int)), .int (iI (k : Int))] (pre ++ (mB m S ++ post)) (some (.int (iI (S.qs t k)))) (pre ++ (mB m S ++ post)) := c_sideSquare hm S ht hk hC
theorem c_sideL {pre post : pW} {m : Nat} (hm : pre.length = m) (S : St) {t : Nat} (ht : t < 74) (hC : S.okC) : pRun 36 [.ref m, .int (iI (t : Int)), .int (iI ((S.lgs t : Nat) : Int))] (pre ++ (mB m S ++ post)) (some (.int (iI (S.lq t)))) (pre ++ (mB m S ++ post)) := c_sideSquare hm S ht (S.lgs_lt t) hC
theorem c_arQ {pre post : pW} {m : Nat} (hm : pre.length = m) (S : St) {t : Nat} (ht : t < 74) (hC : S.okC) : pRun 34 [.ref m, .int (iI (t : Int))] (pre ++ (mB m S ++ post)) (some (.int (iI (S.ar t)))) (pre ++ (mB m S ++ post)) := c_areaOf hm S ht hC
theorem c_longest {pre post : pW} {m : Nat} (hm : pre.length = m) (S : St) {t : Nat} (ht : t < 74) (hC : S.okC) (h : S.inB) : pRun 47 [.ref m, .int (iI (t : Int))] (pre ++ (mB m S ++ post)) (some (.int (iI ((S.lgs t : Nat) : Int)))) (pre ++ (mB m S ++ post)) := by
  refine qx_run ?_
  refine pc_run (lv := [(0, .ref m), (1, .int (iI (t : Int)))]) rfl ?_
  refine pe_go (pc := 0) rfl (s_iconst (z := 0) rfl) ?_
  refine pe_go (pc := 1) rfl (s_istore_n (lv' := [(2, .int (iI 0)), (0, .ref m), (1, .int (iI (t : Int)))]) rfl) ?_
  refine pe_go (pc := 2) rfl (s_iconst (z := 1) rfl) ?_
  refine pe_go (pc := 3) rfl (s_istore_n (lv' := [(3, .int (iI 1)), (2, .int (iI 0)), (0, .ref m), (1, .int (iI (t : Int)))]) rfl) ?_
  refine pe_go (pc := 4) rfl (s_iload_n rfl) ?_
  refine pe_go (pc := 5) rfl (s_iconst (z := 3) rfl) ?_
  refine pe_go rfl (s_icmp_ge_f ⟨by decide, by decide⟩ ⟨by decide, by decide⟩ (by decide)) ?_
  refine pe_go (pc := 9) rfl (s_aload_n rfl) ?_
  refine pe_go (pc := 10) rfl (s_iload_n rfl) ?_
  refine pe_go (pc := 11) rfl (s_iload_n rfl) ?_
  refine pe_call rfl (s_invV rfl (gA0 hm (mB_0 _ _ _)) rfl rfl) (c_sideQ hm S (t := t) (k := 1) (by omega) (by omega) hC) ?_
  refine pe_go (pc := 15) rfl (s_aload_n rfl) ?_
  refine pe_go (pc := 16) rfl (s_iload_n rfl) ?_
  refine pe_go (pc := 17) rfl (s_iload_n rfl) ?_
  refine pe_call rfl (s_invV rfl (gA0 hm (mB_0 _ _ _)) rfl rfl) (c_sideQ hm S (t := t) (k := 0) (by omega) (by omega) hC) ?_
  by_cases c1 : (S.qs t 1) ≤ (S.qs t 0)
  · skip
    refine pe_go rfl (s_icmp_le_t (by have := St.qs_b h hC ht (show 1 < 3 by decide); exact ⟨by omega, by omega⟩) (by have := St.qs_b h hC ht (show 0 < 3 by decide); exact ⟨by omega, by omega⟩) c1) ?_
    refine pe_go (pc := 26) rfl (s_iinc (x := 1) (y := 2) rfl (by omega) (lv' := [(3, .int (iI 2)), (2, .int (iI 0)), (0, .ref m), (1, .int (iI (t : Int)))]) rfl) ?_
    refine pe_go (pc := 29) rfl s_goto ?_
    refine pe_go (pc := 4) rfl (s_iload_n rfl) ?_
    refine pe_go (pc := 5) rfl (s_iconst (z := 3) rfl) ?_
    refine pe_go rfl (s_icmp_ge_f ⟨by decide, by decide⟩ ⟨by decide, by decide⟩ (by decide)) ?_
    refine pe_go (pc := 9) rfl (s_aload_n rfl) ?_
    refine pe_go (pc := 10) rfl (s_iload_n rfl) ?_
    refine pe_go (pc := 11) rfl (s_iload_n rfl) ?_
    refine pe_call rfl (s_invV rfl (gA0 hm (mB_0 _ _ _)) rfl rfl) (c_sideQ hm S (t := t) (k := 2) (by omega) (by omega) hC) ?_
    refine pe_go (pc := 15) rfl (s_aload_n rfl) ?_
    refine pe_go (pc := 16) rfl (s_iload_n rfl) ?_
    refine pe_go (pc := 17) rfl (s_iload_n rfl) ?_
    refine pe_call rfl (s_invV rfl (gA0 hm (mB_0 _ _ _)) rfl rfl) (c_sideQ hm S (t := t) (k := 0) (by omega) (by omega) hC) ?_
    by_cases c2 : (S.qs t 2) ≤ (S.qs t 0)
    · skip
      refine pe_go rfl (s_icmp_le_t (by have := St.qs_b h hC ht (show 2 < 3 by decide); exact ⟨by omega, by omega⟩) (by have := St.qs_b h hC ht (show 0 < 3 by decide); exact ⟨by omega, by omega⟩) c2) ?_
      refine pe_go (pc := 26) rfl (s_iinc (x := 2) (y := 3) rfl (by omega) (lv' := [(3, .int (iI 3)), (2, .int (iI 0)), (0, .ref m), (1, .int (iI (t : Int)))]) rfl) ?_
      refine pe_go (pc := 29) rfl s_goto ?_
      refine pe_go (pc := 4) rfl (s_iload_n rfl) ?_
      refine pe_go (pc := 5) rfl (s_iconst (z := 3) rfl) ?_
      refine pe_go rfl (s_icmp_ge_t ⟨by decide, by decide⟩ ⟨by decide, by decide⟩ (by decide)) ?_
      refine pe_go (pc := 32) rfl (s_iload_n rfl) ?_
      refine pe_ret rfl s_reti ⟨?_, rfl⟩
      unfold St.lgs
      repeat (first | rw [if_pos (by omega)] | rw [if_neg (by omega)])
      try rfl
    · skip
      refine pe_go rfl (s_icmp_le_f (by have := St.qs_b h hC ht (show 2 < 3 by decide); exact ⟨by omega, by omega⟩) (by have := St.qs_b h hC ht (show 0 < 3 by decide); exact ⟨by omega, by omega⟩) c2) ?_
      refine pe_go (pc := 24) rfl (s_iload_n rfl) ?_
      refine pe_go (pc := 25) rfl (s_istore_n (lv' := [(2, .int (iI 2)), (3, .int (iI 2)), (0, .ref m), (1, .int (iI (t : Int)))]) rfl) ?_
      refine pe_go (pc := 26) rfl (s_iinc (x := 2) (y := 3) rfl (by omega) (lv' := [(3, .int (iI 3)), (2, .int (iI 2)), (0, .ref m), (1, .int (iI (t : Int)))]) rfl) ?_
      refine pe_go (pc := 29) rfl s_goto ?_
      refine pe_go (pc := 4) rfl (s_iload_n rfl) ?_
      refine pe_go (pc := 5) rfl (s_iconst (z := 3) rfl) ?_
      refine pe_go rfl (s_icmp_ge_t ⟨by decide, by decide⟩ ⟨by decide, by decide⟩ (by decide)) ?_
      refine pe_go (pc := 32) rfl (s_iload_n rfl) ?_
      refine pe_ret rfl s_reti ⟨?_, rfl⟩
      unfold St.lgs
      repeat (first | rw [if_pos (by omega)] | rw [if_neg (by omega)])
      try rfl
  · skip
    refine pe_go rfl (s_icmp_le_f (by have := St.qs_b h hC ht (show 1 < 3 by decide); exact ⟨by omega, by omega⟩) (by have := St.qs_b h hC ht (show 0 < 3 by decide); exact ⟨by omega, by omega⟩) c1) ?_
    refine pe_go (pc := 24) rfl (s_iload_n rfl) ?_
    refine pe_go (pc := 25) rfl (s_istore_n (lv' := [(2, .int (iI 1)), (3, .int (iI 1)), (0, .ref m), (1, .int (iI (t : Int)))]) rfl) ?_
    refine pe_go (pc := 26) rfl (s_iinc (x := 1) (y := 2) rfl (by omega) (lv' := [(3, .int (iI 2)), (2, .int (iI 1)), (0, .ref m), (1, .int (iI (t : Int)))]) rfl) ?_
    refine pe_go (pc := 29) rfl s_goto ?_
    refine pe_go (pc := 4) rfl (s_iload_n rfl) ?_
    refine pe_go (pc := 5) rfl (s_iconst (z := 3) rfl) ?_
    refine pe_go rfl (s_icmp_ge_f ⟨by decide, by decide⟩ ⟨by decide, by decide⟩ (by decide)) ?_
    refine pe_go (pc := 9) rfl (s_aload_n rfl) ?_
    refine pe_go (pc := 10) rfl (s_iload_n rfl) ?_
    refine pe_go (pc := 11) rfl (s_iload_n rfl) ?_
    refine pe_call rfl (s_invV rfl (gA0 hm (mB_0 _ _ _)) rfl rfl) (c_sideQ hm S (t := t) (k := 2) (by omega) (by omega) hC) ?_
    refine pe_go (pc := 15) rfl (s_aload_n rfl) ?_
    refine pe_go (pc := 16) rfl (s_iload_n rfl) ?_
    refine pe_go (pc := 17) rfl (s_iload_n rfl) ?_
    refine pe_call rfl (s_invV rfl (gA0 hm (mB_0 _ _ _)) rfl rfl) (c_sideQ hm S (t := t) (k := 1) (by omega) (by omega) hC) ?_
    by_cases c3 : (S.qs t 2) ≤ (S.qs t 1)
    · skip
      refine pe_go rfl (s_icmp_le_t (by have := St.qs_b h hC ht (show 2 < 3 by decide); exact ⟨by omega, by omega⟩) (by have := St.qs_b h hC ht (show 1 < 3 by decide); exact ⟨by omega, by omega⟩) c3) ?_
      refine pe_go (pc := 26) rfl (s_iinc (x := 2) (y := 3) rfl (by omega) (lv' := [(3, .int (iI 3)), (2, .int (iI 1)), (0, .ref m), (1, .int (iI (t : Int)))]) rfl) ?_
      refine pe_go (pc := 29) rfl s_goto ?_
      refine pe_go (pc := 4) rfl (s_iload_n rfl) ?_
      refine pe_go (pc := 5) rfl (s_iconst (z := 3) rfl) ?_
      refine pe_go rfl (s_icmp_ge_t ⟨by decide, by decide⟩ ⟨by decide, by decide⟩ (by decide)) ?_
      refine pe_go (pc := 32) rfl (s_iload_n rfl) ?_
      refine pe_ret rfl s_reti ⟨?_, rfl⟩
      unfold St.lgs
      repeat (first | rw [if_pos (by omega)] | rw [if_neg (by omega)])
      try rfl
    · skip
      refine pe_go rfl (s_icmp_le_f (by have := St.qs_b h hC ht (show 2 < 3 by decide); exact ⟨by omega, by omega⟩) (by have := St.qs_b h hC ht (show 1 < 3 by decide); exact ⟨by omega, by omega⟩) c3) ?_
      refine pe_go (pc := 24) rfl (s_iload_n rfl) ?_
      refine pe_go (pc := 25) rfl (s_istore_n (lv' := [(2, .int (iI 2)), (3, .int (iI 2)), (0, .ref m), (1, .int (iI (t : Int)))]) rfl) ?_
      refine pe_go (pc := 26) rfl (s_iinc (x := 2) (y := 3) rfl (by omega) (lv' := [(3, .int (iI 3)), (2, .int (iI 2)), (0, .ref m), (1, .int (iI (t : Int)))]) rfl) ?_
      refine pe_go (pc := 29) rfl s_goto ?_
      refine pe_go (pc := 4) rfl (s_iload_n rfl) ?_
      refine pe_go (pc := 5) rfl (s_iconst (z := 3) rfl) ?_
      refine pe_go rfl (s_icmp_ge_t ⟨by decide, by decide⟩ ⟨by decide, by decide⟩ (by decide)) ?_
      refine pe_go (pc := 32) rfl (s_iload_n rfl) ?_
      refine pe_ret rfl s_reti ⟨?_, rfl⟩
      unfold St.lgs
      repeat (first | rw [if_pos (by omega)] | rw [if_neg (by omega)])
      try rfl
def St.thF (S : St) : Nat → Nat → Nat → Nat
  | 0, _, b => b
  | n + 1, t, b => if S.ar t * S.lq b < S.ar b * S.lq t then S.thF n (t + 1) t else S.thF n (t + 1) b
theorem St.thF_y {S : St} {n t b : Nat} (hz : S.ar t * S.lq b < S.ar b * S.lq t) : S.thF (n + 1) t b = S.thF n (t + 1) t := if_pos hz
theorem St.thF_n {S : St} {n t b : Nat} (hz : ¬ S.ar t * S.lq b < S.ar b * S.lq t) : S.thF (n + 1) t b = S.thF n (t + 1) b := if_neg hz
theorem l_thin {pre post : pW} {m : Nat} (hm : pre.length = m) (S : St) {T : Nat} (hT : S.tn = (T : Int)) (hT2 : T ≤ 74) (hC : S.okC) (h : S.inB) : ∀ (n t b : Nat), t + n = T → b < 74 → qE 48 (25, [(6, .int (iI (t : Int))), (4, .long (lI (S.lq b))), (2, .long (lI (S.ar b))), (1, .int (iI (b : Int))), (0, .ref m)], [], (pre ++ (mB m S ++ post))) (fun r' w' => r' = (some (.int (iI ((S.thF n t b : Nat) : Int)))) ∧ w' = (pre ++ (mB m S ++ post))) := by
  intro n
  induction n with
  | zero =>
    intro t b htn hb
    refine pe_go (pc := 25) rfl (s_iload rfl) ?_
    refine pe_go (pc := 27) rfl (s_aload_n rfl) ?_
    refine pe_go (pc := 28) rfl (s_getf (v := .int (iI S.tn)) (gA0 hm (mB_0 _ _ _)) rfl) ?_
    refine pe_go rfl (s_icmp_ge_t ⟨by omega, by omega⟩ ⟨by omega, by omega⟩ (by omega)) ?_
    refine pe_go (pc := 87) rfl (s_iload_n rfl) ?_
    exact pe_ret rfl s_reti ⟨rfl, rfl⟩
  | succ n ih =>
    intro t b htn hb
    refine pe_go (pc := 25) rfl (s_iload rfl) ?_
    refine pe_go (pc := 27) rfl (s_aload_n rfl) ?_
    refine pe_go (pc := 28) rfl (s_getf (v := .int (iI S.tn)) (gA0 hm (mB_0 _ _ _)) rfl) ?_
    refine pe_go rfl (s_icmp_ge_f ⟨by omega, by omega⟩ ⟨by omega, by omega⟩ (by omega)) ?_
    refine pe_go (pc := 34) rfl (s_aload_n rfl) ?_
    refine pe_go (pc := 35) rfl (s_iload rfl) ?_
    refine pe_call rfl (s_invV rfl (gA0 hm (mB_0 _ _ _)) rfl rfl) (c_arQ hm S (t := t) (by omega) hC) ?_
    refine pe_go (pc := 40) rfl (s_i2l (by have := St.ar_b h hC (show t < 74 by omega); exact ⟨by omega, by omega⟩)) ?_
    refine pe_go (pc := 41) rfl (s_lstore (lv' := [(7, .long (lI (S.ar t))), (6, .int (iI (t : Int))), (4, .long (lI (S.lq b))), (2, .long (lI (S.ar b))), (1, .int (iI (b : Int))), (0, .ref m)]) rfl) ?_
    refine pe_go (pc := 43) rfl (s_aload_n rfl) ?_
    refine pe_go (pc := 44) rfl (s_iload rfl) ?_
    refine pe_go (pc := 46) rfl (s_aload_n rfl) ?_
    refine pe_go (pc := 47) rfl (s_iload rfl) ?_
    refine pe_call rfl (s_invV rfl (gA0 hm (mB_0 _ _ _)) rfl rfl) (c_longest hm S (t := t) (by omega) hC h) ?_
    refine pe_call rfl (s_invV rfl (gA0 hm (mB_0 _ _ _)) rfl rfl) (c_sideL hm S (t := t) (by omega) hC) ?_
    refine pe_go (pc := 55) rfl (s_i2l (by have := St.lq_b h hC (show t < 74 by omega); exact ⟨by omega, by omega⟩)) ?_
    refine pe_go (pc := 56) rfl (s_lstore (lv' := [(9, .long (lI (S.lq t))), (7, .long (lI (S.ar t))), (6, .int (iI (t : Int))), (4, .long (lI (S.lq b))), (2, .long (lI (S.ar b))), (1, .int (iI (b : Int))), (0, .ref m)]) rfl) ?_
    refine pe_go (pc := 58) rfl (s_lload rfl) ?_
    refine pe_go (pc := 60) rfl (s_lload rfl) ?_
    refine pe_go (pc := 62) rfl s_lmul ?_
    refine pe_go (pc := 63) rfl (s_lload_n rfl) ?_
    refine pe_go (pc := 64) rfl (s_lload rfl) ?_
    refine pe_go (pc := 66) rfl s_lmul ?_
    rcases Int.lt_trichotomy ((S.ar t) * (S.lq b)) ((S.ar b) * (S.lq t)) with c1 | c1 | c1
    · skip
      refine pe_go rfl (s_lcmp_lt (St.thin_sl h hC (by omega) (by omega)) (St.thin_sl h hC (by omega) (by omega)) c1) ?_
      refine pe_go rfl (s_if_ge_f ⟨by decide, by decide⟩ (by decide)) ?_
      refine pe_go (pc := 71) rfl (s_iload rfl) ?_
      refine pe_go (pc := 73) rfl (s_istore_n (lv' := [(1, .int (iI (t : Int))), (9, .long (lI (S.lq t))), (7, .long (lI (S.ar t))), (6, .int (iI (t : Int))), (4, .long (lI (S.lq b))), (2, .long (lI (S.ar b))), (0, .ref m)]) rfl) ?_
      refine pe_go (pc := 74) rfl (s_lload rfl) ?_
      refine pe_go (pc := 76) rfl (s_lstore_n (lv' := [(2, .long (lI (S.ar t))), (1, .int (iI (t : Int))), (9, .long (lI (S.lq t))), (7, .long (lI (S.ar t))), (6, .int (iI (t : Int))), (4, .long (lI (S.lq b))), (0, .ref m)]) rfl) ?_
      refine pe_go (pc := 77) rfl (s_lload rfl) ?_
      refine pe_go (pc := 79) rfl (s_lstore (lv' := [(4, .long (lI (S.lq t))), (2, .long (lI (S.ar t))), (1, .int (iI (t : Int))), (9, .long (lI (S.lq t))), (7, .long (lI (S.ar t))), (6, .int (iI (t : Int))), (0, .ref m)]) rfl) ?_
      refine pe_go (pc := 81) rfl (s_iinc (x := (t : Int)) (y := ((t + 1 : Nat) : Int)) rfl (by omega) (lv' := [(6, .int (iI ((t + 1 : Nat) : Int))), (4, .long (lI (S.lq t))), (2, .long (lI (S.ar t))), (1, .int (iI (t : Int))), (9, .long (lI (S.lq t))), (7, .long (lI (S.ar t))), (0, .ref m)]) rfl) ?_
      refine pe_go (pc := 84) rfl s_goto ?_
      first | rw [St.thF_y (by omega)] | rw [St.thF_n (by omega)]
      refine pe_few (lv := [(6, .int (iI ((t + 1 : Nat) : Int))), (4, .long (lI (S.lq t))), (2, .long (lI (S.ar t))), (1, .int (iI (t : Int))), (0, .ref m)]) rfl rfl (by intro q hq; simp only [List.mem_cons, List.not_mem_nil, or_false] at hq; rcases hq with rfl | rfl | rfl | rfl | rfl <;> rfl) ?_
      exact ih (t + 1) t (by omega) (by omega)
    · skip
      refine pe_go rfl (s_lcmp_eq c1) ?_
      refine pe_go rfl (s_if_ge_t ⟨by decide, by decide⟩ (by decide)) ?_
      refine pe_go (pc := 81) rfl (s_iinc (x := (t : Int)) (y := ((t + 1 : Nat) : Int)) rfl (by omega) (lv' := [(6, .int (iI ((t + 1 : Nat) : Int))), (9, .long (lI (S.lq t))), (7, .long (lI (S.ar t))), (4, .long (lI (S.lq b))), (2, .long (lI (S.ar b))), (1, .int (iI (b : Int))), (0, .ref m)]) rfl) ?_
      refine pe_go (pc := 84) rfl s_goto ?_
      first | rw [St.thF_y (by omega)] | rw [St.thF_n (by omega)]
      refine pe_few (lv := [(6, .int (iI ((t + 1 : Nat) : Int))), (4, .long (lI (S.lq b))), (2, .long (lI (S.ar b))), (1, .int (iI (b : Int))), (0, .ref m)]) rfl rfl (by intro q hq; simp only [List.mem_cons, List.not_mem_nil, or_false] at hq; rcases hq with rfl | rfl | rfl | rfl | rfl <;> rfl) ?_
      exact ih (t + 1) b (by omega) (by omega)
    · skip
      refine pe_go rfl (s_lcmp_gt (St.thin_sl h hC (by omega) (by omega)) (St.thin_sl h hC (by omega) (by omega)) c1) ?_
      refine pe_go rfl (s_if_ge_t ⟨by decide, by decide⟩ (by decide)) ?_
      refine pe_go (pc := 81) rfl (s_iinc (x := (t : Int)) (y := ((t + 1 : Nat) : Int)) rfl (by omega) (lv' := [(6, .int (iI ((t + 1 : Nat) : Int))), (9, .long (lI (S.lq t))), (7, .long (lI (S.ar t))), (4, .long (lI (S.lq b))), (2, .long (lI (S.ar b))), (1, .int (iI (b : Int))), (0, .ref m)]) rfl) ?_
      refine pe_go (pc := 84) rfl s_goto ?_
      first | rw [St.thF_y (by omega)] | rw [St.thF_n (by omega)]
      refine pe_few (lv := [(6, .int (iI ((t + 1 : Nat) : Int))), (4, .long (lI (S.lq b))), (2, .long (lI (S.ar b))), (1, .int (iI (b : Int))), (0, .ref m)]) rfl rfl (by intro q hq; simp only [List.mem_cons, List.not_mem_nil, or_false] at hq; rcases hq with rfl | rfl | rfl | rfl | rfl <;> rfl) ?_
      exact ih (t + 1) b (by omega) (by omega)
theorem c_thinnest {pre post : pW} {m : Nat} (hm : pre.length = m) (S : St) {T : Nat} (hT : S.tn = (T : Int)) (hT2 : T ≤ 74) (hT0 : 0 < T) (hC : S.okC) (h : S.inB) : pRun 48 [.ref m] (pre ++ (mB m S ++ post)) (some (.int (iI ((S.thF (T - 1) 1 0 : Nat) : Int)))) (pre ++ (mB m S ++ post)) := by
  refine qx_run ?_
  refine pc_run (lv := [(0, .ref m)]) rfl ?_
  refine pe_go (pc := 0) rfl (s_iconst (z := 0) rfl) ?_
  refine pe_go (pc := 1) rfl (s_istore_n (lv' := [(1, .int (iI 0)), (0, .ref m)]) rfl) ?_
  refine pe_go (pc := 2) rfl (s_aload_n rfl) ?_
  refine pe_go (pc := 3) rfl (s_iconst (z := 0) rfl) ?_
  refine pe_call rfl (s_invV rfl (gA0 hm (mB_0 _ _ _)) rfl rfl) (c_arQ hm S (t := 0) (by omega) hC) ?_
  refine pe_go (pc := 7) rfl (s_i2l (by have := St.ar_b h hC (show 0 < 74 by omega); exact ⟨by omega, by omega⟩)) ?_
  refine pe_go (pc := 8) rfl (s_lstore_n (lv' := [(2, .long (lI (S.ar 0))), (1, .int (iI 0)), (0, .ref m)]) rfl) ?_
  refine pe_go (pc := 9) rfl (s_aload_n rfl) ?_
  refine pe_go (pc := 10) rfl (s_iconst (z := 0) rfl) ?_
  refine pe_go (pc := 11) rfl (s_aload_n rfl) ?_
  refine pe_go (pc := 12) rfl (s_iconst (z := 0) rfl) ?_
  refine pe_call rfl (s_invV rfl (gA0 hm (mB_0 _ _ _)) rfl rfl) (c_longest hm S (t := 0) (by omega) hC h) ?_
  refine pe_call rfl (s_invV rfl (gA0 hm (mB_0 _ _ _)) rfl rfl) (c_sideL hm S (t := 0) (by omega) hC) ?_
  refine pe_go (pc := 19) rfl (s_i2l (by have := St.lq_b h hC (show 0 < 74 by omega); exact ⟨by omega, by omega⟩)) ?_
  refine pe_go (pc := 20) rfl (s_lstore (lv' := [(4, .long (lI (S.lq 0))), (2, .long (lI (S.ar 0))), (1, .int (iI 0)), (0, .ref m)]) rfl) ?_
  refine pe_go (pc := 22) rfl (s_iconst (z := 1) rfl) ?_
  refine pe_go (pc := 23) rfl (s_istore (lv' := [(6, .int (iI 1)), (4, .long (lI (S.lq 0))), (2, .long (lI (S.ar 0))), (1, .int (iI 0)), (0, .ref m)]) rfl) ?_
  refine pe_few (lv := [(6, .int (iI ((1 : Nat) : Int))), (4, .long (lI (S.lq 0))), (2, .long (lI (S.ar 0))), (1, .int (iI ((0 : Nat) : Int))), (0, .ref m)]) rfl rfl (by intro q hq; simp only [List.mem_cons, List.not_mem_nil, or_false] at hq; rcases hq with rfl | rfl | rfl | rfl | rfl <;> rfl) ?_
  exact l_thin hm S hT hT2 hC h (T - 1) 1 0 (by omega) (by decide)
noncomputable def cntF (P : Nat → Prop) : Nat → Nat → Int → Int
  | 0, _, r => r
  | n + 1, e, r => @ite _ (P e) (Classical.propDecidable _) (cntF P n (e + 1) (r + 1)) (cntF P n (e + 1) r)
theorem cntF_y {P : Nat → Prop} {n e : Nat} {r : Int} (hz : P e) : cntF P (n + 1) e r = cntF P n (e + 1) (r + 1) := if_pos hz
theorem cntF_n {P : Nat → Prop} {n e : Nat} {r : Int} (hz : ¬ P e) : cntF P (n + 1) e r = cntF P n (e + 1) r := if_neg hz
def zcmp (x y : Int) : Int := if x < y then -1 else if x = y then 0 else 1
/-- what is counted -/
def St.cfP (S : St) (e : Nat) : Prop := S.bound (S.e1 e) (S.e2 e)
def St.cbP (S : St) (e : Nat) : Prop := ¬ (S.ap (S.e1 e * 40 + S.e2 e) ≠ -1 ∧ S.ap (S.e2 e * 40 + S.e1 e) ≠ -1)
abbrev St.bent (S : St) (e : Nat) : Prop := S.bound (S.e1 e) (S.e2 e) ∧ (S.ap (S.e1 e * 40 + S.e2 e) ≠ -1 ∧ S.ap (S.e2 e * 40 + S.e1 e) ≠ -1) ∧ ¬ S.okE (S.e1 e) (S.e2 e) (S.ap (S.e1 e * 40 + S.e2 e)).toNat (S.ap (S.e2 e * 40 + S.e1 e)).toNat
def St.angP (S : St) (k : Int) (t : Nat) : Prop := zcmp (S.qs t 0 + S.qs t 1 + S.qs t 2 - S.lq t) (S.lq t) = k
theorem c_cmp {w : pW} {x y : Int} (hx : sm x) (hy : sm y) : pRun 134 [.int (iI x), .int (iI y)] w (some (.int (iI (zcmp x y)))) w := by
  refine qx_run ?_
  refine pc_run (lv := [(0, .int (iI x)), (1, .int (iI y))]) rfl ?_
  refine pe_go (pc := 0) rfl (s_iload_n rfl) ?_
  refine pe_go (pc := 1) rfl (s_iload_n rfl) ?_
  by_cases c1 : y ≤ x
  · skip
    refine pe_go rfl (s_icmp_ge_t hx hy c1) ?_
    refine pe_go (pc := 9) rfl (s_iload_n rfl) ?_
    refine pe_go (pc := 10) rfl (s_iload_n rfl) ?_
    by_cases c2 : x = y
    · skip
      refine pe_go rfl (s_icmp_ne_f hx hy (fun e => e c2)) ?_
      refine pe_go (pc := 14) rfl (s_iconst (z := 0) rfl) ?_
      refine pe_go (pc := 15) rfl s_goto ?_
      refine pe_ret rfl s_reti ⟨?_, rfl⟩
      unfold zcmp
      repeat (first | rw [if_pos (by omega)] | rw [if_neg (by omega)])
    · skip
      refine pe_go rfl (s_icmp_ne_t hx hy c2) ?_
      refine pe_go (pc := 18) rfl (s_iconst (z := 1) rfl) ?_
      refine pe_ret rfl s_reti ⟨?_, rfl⟩
      unfold zcmp
      repeat (first | rw [if_pos (by omega)] | rw [if_neg (by omega)])
  · skip
    refine pe_go rfl (s_icmp_ge_f hx hy c1) ?_
    refine pe_go (pc := 5) rfl (s_iconst (z := -1) rfl) ?_
    refine pe_go (pc := 6) rfl s_goto ?_
    refine pe_ret rfl s_reti ⟨?_, rfl⟩
    unfold zcmp
    repeat (first | rw [if_pos (by omega)] | rw [if_neg (by omega)])
theorem l_countFixed {pre post : pW} {m : Nat} (hm : pre.length = m) (S : St) {E : Nat} (hE : S.ec = (E : Int)) (hE2 : E ≤ 113) (hN : S.okN) : ∀ (n e : Nat) (r : Int), e + n = E → qE 42 (4, [(2, .int (iI (e : Int))), (1, .int (iI r)), (0, .ref m)], [], (pre ++ (mB m S ++ post))) (fun r' w' => r' = (some (.int (iI (cntF S.cfP n e r)))) ∧ w' = (pre ++ (mB m S ++ post))) := by
  intro n
  induction n with
  | zero =>
    intro e r he
    refine pe_go (pc := 4) rfl (s_iload_n rfl) ?_
    refine pe_go (pc := 5) rfl (s_aload_n rfl) ?_
    refine pe_go (pc := 6) rfl (s_getf (v := .int (iI S.ec)) (gA0 hm (mB_0 _ _ _)) rfl) ?_
    refine pe_go rfl (s_icmp_ge_t ⟨by omega, by omega⟩ ⟨by omega, by omega⟩ (by omega)) ?_
    refine pe_go (pc := 49) rfl (s_iload_n rfl) ?_
    exact pe_ret rfl s_reti ⟨rfl, rfl⟩
  | succ n ih =>
    intro e r he
    refine pe_go (pc := 4) rfl (s_iload_n rfl) ?_
    refine pe_go (pc := 5) rfl (s_aload_n rfl) ?_
    refine pe_go (pc := 6) rfl (s_getf (v := .int (iI S.ec)) (gA0 hm (mB_0 _ _ _)) rfl) ?_
    refine pe_go rfl (s_icmp_ge_f ⟨by omega, by omega⟩ ⟨by omega, by omega⟩ (by omega)) ?_
    refine pe_go (pc := 12) rfl (s_aload_n rfl) ?_
    refine pe_go (pc := 13) rfl (s_getf (v := .ref (m + 1)) (gA0 hm (mB_0 _ _ _)) rfl) ?_
    refine pe_go (pc := 16) rfl (s_aload_n rfl) ?_
    refine pe_go (pc := 17) rfl (s_getf (v := .ref (m + 11)) (gA0 hm (mB_0 _ _ _)) rfl) ?_
    refine pe_go (pc := 20) rfl (s_iconst (z := 2) rfl) ?_
    refine pe_go (pc := 21) rfl (s_iload_n rfl) ?_
    refine pe_go (pc := 22) rfl s_imul ?_
    refine pe_go (pc := 23) rfl (s_iald (n := 226) (f := S.en) (v := ((S.e1 e : Nat) : Int)) (gA hm (mB_en _ _ _)) (k := 2 * e) (by omega) (by omega) (by decide) (St.e1_eq hN (by omega))) ?_
    refine pe_go (pc := 24) rfl (s_aload_n rfl) ?_
    refine pe_go (pc := 25) rfl (s_getf (v := .ref (m + 11)) (gA0 hm (mB_0 _ _ _)) rfl) ?_
    refine pe_go (pc := 28) rfl (s_iconst (z := 2) rfl) ?_
    refine pe_go (pc := 29) rfl (s_iload_n rfl) ?_
    refine pe_go (pc := 30) rfl s_imul ?_
    refine pe_go (pc := 31) rfl (s_iconst (z := 1) rfl) ?_
    refine pe_go (pc := 32) rfl s_iadd ?_
    refine pe_go (pc := 33) rfl (s_iald (n := 226) (f := S.en) (v := ((S.e2 e : Nat) : Int)) (gA hm (mB_en _ _ _)) (k := (2 * e) + 1) (by omega) (by omega) (by decide) (St.e2_eq hN (by omega))) ?_
    refine pe_call rfl (s_invV rfl (gA hm (mB_1 _ _ _)) rfl rfl) (c_isBound hm S (St.e1_lt hN (by omega)) (St.e2_lt hN (by omega))) ?_
    by_cases b1 : S.bound (S.e1 e) (S.e2 e)
    · skip
      refine pe_go rfl (s_ifeq_true (decide_eq_true b1)) ?_
      refine pe_go (pc := 40) rfl (s_iinc (x := r) (y := r + 1) rfl rfl (lv' := [(1, .int (iI (r + 1))), (2, .int (iI (e : Int))), (0, .ref m)]) rfl) ?_
      refine pe_go (pc := 43) rfl (s_iinc (x := (e : Int)) (y := ((e + 1 : Nat) : Int)) rfl (by omega) (lv' := [(2, .int (iI ((e + 1 : Nat) : Int))), (1, .int (iI (r + 1))), (0, .ref m)]) rfl) ?_
      refine pe_go (pc := 46) rfl s_goto ?_
      rw [cntF_y (P := S.cfP) (show S.cfP e from by first | assumption | (intro z; exact absurd (by assumption) z))]
      refine pe_few (lv := [(2, .int (iI ((e + 1 : Nat) : Int))), (1, .int (iI (r + 1))), (0, .ref m)]) rfl rfl (by intro q hq; simp only [List.mem_cons, List.not_mem_nil, or_false] at hq; rcases hq with rfl | rfl | rfl <;> rfl) ?_
      exact ih (e + 1) (r + 1) (by omega)
    · skip
      refine pe_go rfl (s_ifeq_false (decide_eq_false b1)) ?_
      refine pe_go (pc := 43) rfl (s_iinc (x := (e : Int)) (y := ((e + 1 : Nat) : Int)) rfl (by omega) (lv' := [(2, .int (iI ((e + 1 : Nat) : Int))), (1, .int (iI r)), (0, .ref m)]) rfl) ?_
      refine pe_go (pc := 46) rfl s_goto ?_
      rw [cntF_n (P := S.cfP) (show ¬ S.cfP e from by first | assumption | (intro z; exact absurd (by assumption) z))]
      refine pe_few (lv := [(2, .int (iI ((e + 1 : Nat) : Int))), (1, .int (iI r)), (0, .ref m)]) rfl rfl (by intro q hq; simp only [List.mem_cons, List.not_mem_nil, or_false] at hq; rcases hq with rfl | rfl | rfl <;> rfl) ?_
      exact ih (e + 1) r (by omega)
theorem c_countFixed {pre post : pW} {m : Nat} (hm : pre.length = m) (S : St) {E : Nat} (hE : S.ec = (E : Int)) (hE2 : E ≤ 113) (hN : S.okN) : pRun 42 [.ref m] (pre ++ (mB m S ++ post)) (some (.int (iI (cntF S.cfP E 0 0)))) (pre ++ (mB m S ++ post)) := by
  refine qx_run ?_
  refine pc_run (lv := [(0, .ref m)]) rfl ?_
  refine pe_go (pc := 0) rfl (s_iconst (z := 0) rfl) ?_
  refine pe_go (pc := 1) rfl (s_istore_n (lv' := [(1, .int (iI 0)), (0, .ref m)]) rfl) ?_
  refine pe_go (pc := 2) rfl (s_iconst (z := 0) rfl) ?_
  refine pe_go (pc := 3) rfl (s_istore_n (lv' := [(2, .int (iI 0)), (1, .int (iI 0)), (0, .ref m)]) rfl) ?_
  exact l_countFixed hm S hE hE2 hN E 0 0 (by omega)
theorem l_countBorder {pre post : pW} {m : Nat} (hm : pre.length = m) (S : St) {E : Nat} (hE : S.ec = (E : Int)) (hE2 : E ≤ 113) (hN : S.okN) (hA : S.okA) : ∀ (n e : Nat) (r : Int), e + n = E → qE 43 (4, [(2, .int (iI (e : Int))), (1, .int (iI r)), (0, .ref m)], [], (pre ++ (mB m S ++ post))) (fun r' w' => r' = (some (.int (iI (cntF S.cbP n e r)))) ∧ w' = (pre ++ (mB m S ++ post))) := by
  intro n
  induction n with
  | zero =>
    intro e r he
    refine pe_go (pc := 4) rfl (s_iload_n rfl) ?_
    refine pe_go (pc := 5) rfl (s_aload_n rfl) ?_
    refine pe_go (pc := 6) rfl (s_getf (v := .int (iI S.ec)) (gA0 hm (mB_0 _ _ _)) rfl) ?_
    refine pe_go rfl (s_icmp_ge_t ⟨by omega, by omega⟩ ⟨by omega, by omega⟩ (by omega)) ?_
    refine pe_go (pc := 46) rfl (s_iload_n rfl) ?_
    exact pe_ret rfl s_reti ⟨rfl, rfl⟩
  | succ n ih =>
    intro e r he
    have hap := hA (S.e1 e * 40 + S.e2 e) (by have := St.e1_lt hN (show e < 113 by omega); have := St.e2_lt hN (show e < 113 by omega); omega)
    have hap2 := hA (S.e2 e * 40 + S.e1 e) (by have := St.e1_lt hN (show e < 113 by omega); have := St.e2_lt hN (show e < 113 by omega); omega)
    refine pe_go (pc := 4) rfl (s_iload_n rfl) ?_
    refine pe_go (pc := 5) rfl (s_aload_n rfl) ?_
    refine pe_go (pc := 6) rfl (s_getf (v := .int (iI S.ec)) (gA0 hm (mB_0 _ _ _)) rfl) ?_
    refine pe_go rfl (s_icmp_ge_f ⟨by omega, by omega⟩ ⟨by omega, by omega⟩ (by omega)) ?_
    refine pe_go (pc := 12) rfl (s_aload_n rfl) ?_
    refine pe_go (pc := 13) rfl (s_aload_n rfl) ?_
    refine pe_go (pc := 14) rfl (s_getf (v := .ref (m + 11)) (gA0 hm (mB_0 _ _ _)) rfl) ?_
    refine pe_go (pc := 17) rfl (s_iconst (z := 2) rfl) ?_
    refine pe_go (pc := 18) rfl (s_iload_n rfl) ?_
    refine pe_go (pc := 19) rfl s_imul ?_
    refine pe_go (pc := 20) rfl (s_iald (n := 226) (f := S.en) (v := ((S.e1 e : Nat) : Int)) (gA hm (mB_en _ _ _)) (k := 2 * e) (by omega) (by omega) (by decide) (St.e1_eq hN (by omega))) ?_
    refine pe_go (pc := 21) rfl (s_aload_n rfl) ?_
    refine pe_go (pc := 22) rfl (s_getf (v := .ref (m + 11)) (gA0 hm (mB_0 _ _ _)) rfl) ?_
    refine pe_go (pc := 25) rfl (s_iconst (z := 2) rfl) ?_
    refine pe_go (pc := 26) rfl (s_iload_n rfl) ?_
    refine pe_go (pc := 27) rfl s_imul ?_
    refine pe_go (pc := 28) rfl (s_iconst (z := 1) rfl) ?_
    refine pe_go (pc := 29) rfl s_iadd ?_
    refine pe_go (pc := 30) rfl (s_iald (n := 226) (f := S.en) (v := ((S.e2 e : Nat) : Int)) (gA hm (mB_en _ _ _)) (k := (2 * e) + 1) (by omega) (by omega) (by decide) (St.e2_eq hN (by omega))) ?_
    refine pe_call rfl (s_invV rfl (gA0 hm (mB_0 _ _ _)) rfl rfl) (c_isInner hm S (St.e1_lt hN (by omega)) (St.e2_lt hN (by omega)) ⟨by omega, by omega⟩ ⟨by omega, by omega⟩) ?_
    by_cases b1 : S.ap (S.e1 e * 40 + S.e2 e) ≠ -1 ∧ S.ap (S.e2 e * 40 + S.e1 e) ≠ -1
    · skip
      refine pe_go rfl (s_ifne_true (decide_eq_true b1)) ?_
      refine pe_go (pc := 40) rfl (s_iinc (x := (e : Int)) (y := ((e + 1 : Nat) : Int)) rfl (by omega) (lv' := [(2, .int (iI ((e + 1 : Nat) : Int))), (1, .int (iI r)), (0, .ref m)]) rfl) ?_
      refine pe_go (pc := 43) rfl s_goto ?_
      rw [cntF_n (P := S.cbP) (show ¬ S.cbP e from by first | assumption | (intro z; exact absurd (by assumption) z))]
      refine pe_few (lv := [(2, .int (iI ((e + 1 : Nat) : Int))), (1, .int (iI r)), (0, .ref m)]) rfl rfl (by intro q hq; simp only [List.mem_cons, List.not_mem_nil, or_false] at hq; rcases hq with rfl | rfl | rfl <;> rfl) ?_
      exact ih (e + 1) r (by omega)
    · skip
      refine pe_go rfl (s_ifne_false (decide_eq_false b1)) ?_
      refine pe_go (pc := 37) rfl (s_iinc (x := r) (y := r + 1) rfl rfl (lv' := [(1, .int (iI (r + 1))), (2, .int (iI (e : Int))), (0, .ref m)]) rfl) ?_
      refine pe_go (pc := 40) rfl (s_iinc (x := (e : Int)) (y := ((e + 1 : Nat) : Int)) rfl (by omega) (lv' := [(2, .int (iI ((e + 1 : Nat) : Int))), (1, .int (iI (r + 1))), (0, .ref m)]) rfl) ?_
      refine pe_go (pc := 43) rfl s_goto ?_
      rw [cntF_y (P := S.cbP) (show S.cbP e from by first | assumption | (intro z; exact absurd (by assumption) z))]
      refine pe_few (lv := [(2, .int (iI ((e + 1 : Nat) : Int))), (1, .int (iI (r + 1))), (0, .ref m)]) rfl rfl (by intro q hq; simp only [List.mem_cons, List.not_mem_nil, or_false] at hq; rcases hq with rfl | rfl | rfl <;> rfl) ?_
      exact ih (e + 1) (r + 1) (by omega)
theorem c_countBorder {pre post : pW} {m : Nat} (hm : pre.length = m) (S : St) {E : Nat} (hE : S.ec = (E : Int)) (hE2 : E ≤ 113) (hN : S.okN) (hA : S.okA) : pRun 43 [.ref m] (pre ++ (mB m S ++ post)) (some (.int (iI (cntF S.cbP E 0 0)))) (pre ++ (mB m S ++ post)) := by
  refine qx_run ?_
  refine pc_run (lv := [(0, .ref m)]) rfl ?_
  refine pe_go (pc := 0) rfl (s_iconst (z := 0) rfl) ?_
  refine pe_go (pc := 1) rfl (s_istore_n (lv' := [(1, .int (iI 0)), (0, .ref m)]) rfl) ?_
  refine pe_go (pc := 2) rfl (s_iconst (z := 0) rfl) ?_
  refine pe_go (pc := 3) rfl (s_istore_n (lv' := [(2, .int (iI 0)), (1, .int (iI 0)), (0, .ref m)]) rfl) ?_
  exact l_countBorder hm S hE hE2 hN hA E 0 0 (by omega)
theorem c_isBent {pre post : pW} {m : Nat} (hm : pre.length = m) (S : St) {e : Nat} (he : e < 113) (hN : S.okN) (hA : S.okA) (h : S.inB) (hl : S.liB) : pRun 44 [.ref m, .int (iI (e : Int))] (pre ++ (mB m S ++ post)) (some (.int (bI (decide (S.bent e))))) (pre ++ (mB m S ++ post)) := by
  refine qx_run ?_
  refine pc_run (lv := [(0, .ref m), (1, .int (iI (e : Int)))]) rfl ?_
  have hap := hA (S.e1 e * 40 + S.e2 e) (by have := St.e1_lt hN (show e < 113 by omega); have := St.e2_lt hN (show e < 113 by omega); omega)
  have hap2 := hA (S.e2 e * 40 + S.e1 e) (by have := St.e1_lt hN (show e < 113 by omega); have := St.e2_lt hN (show e < 113 by omega); omega)
  refine pe_go (pc := 0) rfl (s_aload_n rfl) ?_
  refine pe_go (pc := 1) rfl (s_getf (v := .ref (m + 11)) (gA0 hm (mB_0 _ _ _)) rfl) ?_
  refine pe_go (pc := 4) rfl (s_iconst (z := 2) rfl) ?_
  refine pe_go (pc := 5) rfl (s_iload_n rfl) ?_
  refine pe_go (pc := 6) rfl s_imul ?_
  refine pe_go (pc := 7) rfl (s_iald (n := 226) (f := S.en) (v := ((S.e1 e : Nat) : Int)) (gA hm (mB_en _ _ _)) (k := 2 * e) (by omega) (by omega) (by decide) (St.e1_eq hN (by omega))) ?_
  refine pe_go (pc := 8) rfl (s_istore_n (lv' := [(2, .int (iI ((S.e1 e : Nat) : Int))), (0, .ref m), (1, .int (iI (e : Int)))]) rfl) ?_
  refine pe_go (pc := 9) rfl (s_aload_n rfl) ?_
  refine pe_go (pc := 10) rfl (s_getf (v := .ref (m + 11)) (gA0 hm (mB_0 _ _ _)) rfl) ?_
  refine pe_go (pc := 13) rfl (s_iconst (z := 2) rfl) ?_
  refine pe_go (pc := 14) rfl (s_iload_n rfl) ?_
  refine pe_go (pc := 15) rfl s_imul ?_
  refine pe_go (pc := 16) rfl (s_iconst (z := 1) rfl) ?_
  refine pe_go (pc := 17) rfl s_iadd ?_
  refine pe_go (pc := 18) rfl (s_iald (n := 226) (f := S.en) (v := ((S.e2 e : Nat) : Int)) (gA hm (mB_en _ _ _)) (k := (2 * e) + 1) (by omega) (by omega) (by decide) (St.e2_eq hN (by omega))) ?_
  refine pe_go (pc := 19) rfl (s_istore_n (lv' := [(3, .int (iI ((S.e2 e : Nat) : Int))), (2, .int (iI ((S.e1 e : Nat) : Int))), (0, .ref m), (1, .int (iI (e : Int)))]) rfl) ?_
  refine pe_go (pc := 20) rfl (s_aload_n rfl) ?_
  refine pe_go (pc := 21) rfl (s_getf (v := .ref (m + 1)) (gA0 hm (mB_0 _ _ _)) rfl) ?_
  refine pe_go (pc := 24) rfl (s_iload_n rfl) ?_
  refine pe_go (pc := 25) rfl (s_iload_n rfl) ?_
  refine pe_call rfl (s_invV rfl (gA hm (mB_1 _ _ _)) rfl rfl) (c_isBound hm S (St.e1_lt hN (by omega)) (St.e2_lt hN (by omega))) ?_
  by_cases b1 : S.bound (S.e1 e) (S.e2 e)
  · skip
    refine pe_go rfl (s_ifeq_true (decide_eq_true b1)) ?_
    refine pe_go (pc := 32) rfl (s_aload_n rfl) ?_
    refine pe_go (pc := 33) rfl (s_iload_n rfl) ?_
    refine pe_go (pc := 34) rfl (s_iload_n rfl) ?_
    refine pe_call rfl (s_invV rfl (gA0 hm (mB_0 _ _ _)) rfl rfl) (c_isInner hm S (St.e1_lt hN (by omega)) (St.e2_lt hN (by omega)) ⟨by omega, by omega⟩ ⟨by omega, by omega⟩) ?_
    by_cases b2 : S.ap (S.e1 e * 40 + S.e2 e) ≠ -1 ∧ S.ap (S.e2 e * 40 + S.e1 e) ≠ -1
    · skip
      refine pe_go rfl (s_ifeq_true (decide_eq_true b2)) ?_
      refine pe_go (pc := 41) rfl (s_aload_n rfl) ?_
      refine pe_go (pc := 42) rfl (s_iload_n rfl) ?_
      refine pe_go (pc := 43) rfl (s_iload_n rfl) ?_
      refine pe_call rfl (s_invV rfl (gA0 hm (mB_0 _ _ _)) rfl rfl) (c_isAllowed hm S (c := (S.ap (S.e1 e * 40 + S.e2 e)).toNat) (d := (S.ap (S.e2 e * 40 + S.e1 e)).toNat) (St.e1_lt hN (by omega)) (St.e2_lt hN (by omega)) (by omega) (by omega) (by omega) (by omega) h hl) ?_
      by_cases b3 : S.okE (S.e1 e) (S.e2 e) (S.ap (S.e1 e * 40 + S.e2 e)).toNat (S.ap (S.e2 e * 40 + S.e1 e)).toNat
      · skip
        refine pe_go rfl (s_ifne_true (decide_eq_true b3)) ?_
        refine pe_go (pc := 54) rfl (s_iconst (z := 0) rfl) ?_
        exact pe_ret rfl s_ret0 ⟨by rw [decide_eq_false (show ¬ (S.bent e) from (by rintro ⟨z1, z2, z3⟩; first | exact absurd z1 (by assumption) | exact absurd z2 (by assumption) | exact absurd (by assumption) z3))], rfl⟩
      · skip
        refine pe_go rfl (s_ifne_false (decide_eq_false b3)) ?_
        refine pe_go (pc := 50) rfl (s_iconst (z := 1) rfl) ?_
        refine pe_go (pc := 51) rfl s_goto ?_
        exact pe_ret rfl s_ret1 ⟨by rw [decide_eq_true (show S.bent e from ⟨by assumption, by assumption, by assumption⟩)], rfl⟩
    · skip
      refine pe_go rfl (s_ifeq_false (decide_eq_false b2)) ?_
      refine pe_go (pc := 54) rfl (s_iconst (z := 0) rfl) ?_
      exact pe_ret rfl s_ret0 ⟨by rw [decide_eq_false (show ¬ (S.bent e) from (by rintro ⟨z1, z2, z3⟩; first | exact absurd z1 (by assumption) | exact absurd z2 (by assumption) | exact absurd (by assumption) z3))], rfl⟩
  · skip
    refine pe_go rfl (s_ifeq_false (decide_eq_false b1)) ?_
    refine pe_go (pc := 54) rfl (s_iconst (z := 0) rfl) ?_
    exact pe_ret rfl s_ret0 ⟨by rw [decide_eq_false (show ¬ (S.bent e) from (by rintro ⟨z1, z2, z3⟩; first | exact absurd z1 (by assumption) | exact absurd z2 (by assumption) | exact absurd (by assumption) z3))], rfl⟩
theorem l_countBent {pre post : pW} {m : Nat} (hm : pre.length = m) (S : St) {E : Nat} (hE : S.ec = (E : Int)) (hE2 : E ≤ 113) (hN : S.okN) (hA : S.okA) (h : S.inB) (hl : S.liB) : ∀ (n e : Nat) (r : Int), e + n = E → qE 45 (4, [(2, .int (iI (e : Int))), (1, .int (iI r)), (0, .ref m)], [], (pre ++ (mB m S ++ post))) (fun r' w' => r' = (some (.int (iI (cntF S.bent n e r)))) ∧ w' = (pre ++ (mB m S ++ post))) := by
  intro n
  induction n with
  | zero =>
    intro e r he
    refine pe_go (pc := 4) rfl (s_iload_n rfl) ?_
    refine pe_go (pc := 5) rfl (s_aload_n rfl) ?_
    refine pe_go (pc := 6) rfl (s_getf (v := .int (iI S.ec)) (gA0 hm (mB_0 _ _ _)) rfl) ?_
    refine pe_go rfl (s_icmp_ge_t ⟨by omega, by omega⟩ ⟨by omega, by omega⟩ (by omega)) ?_
    refine pe_go (pc := 29) rfl (s_iload_n rfl) ?_
    exact pe_ret rfl s_reti ⟨rfl, rfl⟩
  | succ n ih =>
    intro e r he
    refine pe_go (pc := 4) rfl (s_iload_n rfl) ?_
    refine pe_go (pc := 5) rfl (s_aload_n rfl) ?_
    refine pe_go (pc := 6) rfl (s_getf (v := .int (iI S.ec)) (gA0 hm (mB_0 _ _ _)) rfl) ?_
    refine pe_go rfl (s_icmp_ge_f ⟨by omega, by omega⟩ ⟨by omega, by omega⟩ (by omega)) ?_
    refine pe_go (pc := 12) rfl (s_aload_n rfl) ?_
    refine pe_go (pc := 13) rfl (s_iload_n rfl) ?_
    refine pe_call rfl (s_invV rfl (gA0 hm (mB_0 _ _ _)) rfl rfl) (c_isBent hm S (by omega : e < 113) hN hA h hl) ?_
    by_cases b1 : S.bent e
    · skip
      refine pe_go rfl (s_ifeq_true (decide_eq_true b1)) ?_
      refine pe_go (pc := 20) rfl (s_iinc (x := r) (y := r + 1) rfl rfl (lv' := [(1, .int (iI (r + 1))), (2, .int (iI (e : Int))), (0, .ref m)]) rfl) ?_
      refine pe_go (pc := 23) rfl (s_iinc (x := (e : Int)) (y := ((e + 1 : Nat) : Int)) rfl (by omega) (lv' := [(2, .int (iI ((e + 1 : Nat) : Int))), (1, .int (iI (r + 1))), (0, .ref m)]) rfl) ?_
      refine pe_go (pc := 26) rfl s_goto ?_
      rw [cntF_y (P := S.bent) (show S.bent e from by first | assumption | (intro z; exact absurd (by assumption) z))]
      refine pe_few (lv := [(2, .int (iI ((e + 1 : Nat) : Int))), (1, .int (iI (r + 1))), (0, .ref m)]) rfl rfl (by intro q hq; simp only [List.mem_cons, List.not_mem_nil, or_false] at hq; rcases hq with rfl | rfl | rfl <;> rfl) ?_
      exact ih (e + 1) (r + 1) (by omega)
    · skip
      refine pe_go rfl (s_ifeq_false (decide_eq_false b1)) ?_
      refine pe_go (pc := 23) rfl (s_iinc (x := (e : Int)) (y := ((e + 1 : Nat) : Int)) rfl (by omega) (lv' := [(2, .int (iI ((e + 1 : Nat) : Int))), (1, .int (iI r)), (0, .ref m)]) rfl) ?_
      refine pe_go (pc := 26) rfl s_goto ?_
      rw [cntF_n (P := S.bent) (show ¬ S.bent e from by first | assumption | (intro z; exact absurd (by assumption) z))]
      refine pe_few (lv := [(2, .int (iI ((e + 1 : Nat) : Int))), (1, .int (iI r)), (0, .ref m)]) rfl rfl (by intro q hq; simp only [List.mem_cons, List.not_mem_nil, or_false] at hq; rcases hq with rfl | rfl | rfl <;> rfl) ?_
      exact ih (e + 1) r (by omega)
theorem c_countBent {pre post : pW} {m : Nat} (hm : pre.length = m) (S : St) {E : Nat} (hE : S.ec = (E : Int)) (hE2 : E ≤ 113) (hN : S.okN) (hA : S.okA) (h : S.inB) (hl : S.liB) : pRun 45 [.ref m] (pre ++ (mB m S ++ post)) (some (.int (iI (cntF S.bent E 0 0)))) (pre ++ (mB m S ++ post)) := by
  refine qx_run ?_
  refine pc_run (lv := [(0, .ref m)]) rfl ?_
  refine pe_go (pc := 0) rfl (s_iconst (z := 0) rfl) ?_
  refine pe_go (pc := 1) rfl (s_istore_n (lv' := [(1, .int (iI 0)), (0, .ref m)]) rfl) ?_
  refine pe_go (pc := 2) rfl (s_iconst (z := 0) rfl) ?_
  refine pe_go (pc := 3) rfl (s_istore_n (lv' := [(2, .int (iI 0)), (1, .int (iI 0)), (0, .ref m)]) rfl) ?_
  exact l_countBent hm S hE hE2 hN hA h hl E 0 0 (by omega)
theorem l_countAngles {pre post : pW} {m : Nat} (hm : pre.length = m) (S : St) {T : Nat} (hT : S.tn = (T : Int)) (hT2 : T ≤ 74) {k : Int} (hk : sm k) (hC : S.okC) (h : S.inB) : ∀ (n t : Nat) (r : Int), t + n = T → qE 46 (4, [(3, .int (iI (t : Int))), (2, .int (iI r)), (0, .ref m), (1, .int (iI k))], [], (pre ++ (mB m S ++ post))) (fun r' w' => r' = (some (.int (iI (cntF (S.angP k) n t r)))) ∧ w' = (pre ++ (mB m S ++ post))) := by
  intro n
  induction n with
  | zero =>
    intro t r he
    refine pe_go (pc := 4) rfl (s_iload_n rfl) ?_
    refine pe_go (pc := 5) rfl (s_aload_n rfl) ?_
    refine pe_go (pc := 6) rfl (s_getf (v := .int (iI S.tn)) (gA0 hm (mB_0 _ _ _)) rfl) ?_
    refine pe_go rfl (s_icmp_ge_t ⟨by omega, by omega⟩ ⟨by omega, by omega⟩ (by omega)) ?_
    refine pe_go (pc := 69) rfl (s_iload_n rfl) ?_
    exact pe_ret rfl s_reti ⟨rfl, rfl⟩
  | succ n ih =>
    intro t r he
    have q0 := St.qs_b h hC (show t < 74 by omega) (show 0 < 3 by decide)
    have q1 := St.qs_b h hC (show t < 74 by omega) (show 1 < 3 by decide)
    have q2 := St.qs_b h hC (show t < 74 by omega) (show 2 < 3 by decide)
    have q3 := St.lq_b h hC (show t < 74 by omega)
    refine pe_go (pc := 4) rfl (s_iload_n rfl) ?_
    refine pe_go (pc := 5) rfl (s_aload_n rfl) ?_
    refine pe_go (pc := 6) rfl (s_getf (v := .int (iI S.tn)) (gA0 hm (mB_0 _ _ _)) rfl) ?_
    refine pe_go rfl (s_icmp_ge_f ⟨by omega, by omega⟩ ⟨by omega, by omega⟩ (by omega)) ?_
    refine pe_go (pc := 12) rfl (s_aload_n rfl) ?_
    refine pe_go (pc := 13) rfl (s_iload_n rfl) ?_
    refine pe_go (pc := 14) rfl (s_aload_n rfl) ?_
    refine pe_go (pc := 15) rfl (s_iload_n rfl) ?_
    refine pe_call rfl (s_invV rfl (gA0 hm (mB_0 _ _ _)) rfl rfl) (c_longest hm S (t := t) (by omega) hC h) ?_
    refine pe_call rfl (s_invV rfl (gA0 hm (mB_0 _ _ _)) rfl rfl) (c_sideL hm S (t := t) (by omega) hC) ?_
    refine pe_go (pc := 22) rfl (s_istore (lv' := [(4, .int (iI (S.lq t))), (3, .int (iI (t : Int))), (2, .int (iI r)), (0, .ref m), (1, .int (iI k))]) rfl) ?_
    refine pe_go (pc := 24) rfl (s_aload_n rfl) ?_
    refine pe_go (pc := 25) rfl (s_iload_n rfl) ?_
    refine pe_go (pc := 26) rfl (s_iconst (z := 0) rfl) ?_
    refine pe_call rfl (s_invV rfl (gA0 hm (mB_0 _ _ _)) rfl rfl) (c_sideQ hm S (t := t) (k := 0) (by omega) (by omega) hC) ?_
    refine pe_go (pc := 30) rfl (s_aload_n rfl) ?_
    refine pe_go (pc := 31) rfl (s_iload_n rfl) ?_
    refine pe_go (pc := 32) rfl (s_iconst (z := 1) rfl) ?_
    refine pe_call rfl (s_invV rfl (gA0 hm (mB_0 _ _ _)) rfl rfl) (c_sideQ hm S (t := t) (k := 1) (by omega) (by omega) hC) ?_
    refine pe_go (pc := 36) rfl s_iadd ?_
    refine pe_go (pc := 37) rfl (s_aload_n rfl) ?_
    refine pe_go (pc := 38) rfl (s_iload_n rfl) ?_
    refine pe_go (pc := 39) rfl (s_iconst (z := 2) rfl) ?_
    refine pe_call rfl (s_invV rfl (gA0 hm (mB_0 _ _ _)) rfl rfl) (c_sideQ hm S (t := t) (k := 2) (by omega) (by omega) hC) ?_
    refine pe_go (pc := 43) rfl s_iadd ?_
    refine pe_go (pc := 44) rfl (s_iload rfl) ?_
    refine pe_go (pc := 46) rfl s_isub ?_
    refine pe_go (pc := 47) rfl (s_istore (lv' := [(5, .int (iI ((((S.qs t 0) + (S.qs t 1)) + (S.qs t 2)) - (S.lq t)))), (4, .int (iI (S.lq t))), (3, .int (iI (t : Int))), (2, .int (iI r)), (0, .ref m), (1, .int (iI k))]) rfl) ?_
    refine pe_go (pc := 49) rfl (s_iload rfl) ?_
    refine pe_go (pc := 51) rfl (s_iload rfl) ?_
    refine pe_call rfl (s_invS rfl rfl rfl) (c_cmp ⟨by omega, by omega⟩ ⟨by omega, by omega⟩) ?_
    refine pe_go (pc := 56) rfl (s_iload_n rfl) ?_
    by_cases c1 : (zcmp ((((S.qs t 0) + (S.qs t 1)) + (S.qs t 2)) - (S.lq t)) (S.lq t)) = k
    · skip
      refine pe_go rfl (s_icmp_ne_f (by unfold zcmp; split; decide; split <;> decide) hk (fun e => e c1)) ?_
      refine pe_go (pc := 60) rfl (s_iinc (x := r) (y := r + 1) rfl rfl (lv' := [(2, .int (iI (r + 1))), (5, .int (iI ((((S.qs t 0) + (S.qs t 1)) + (S.qs t 2)) - (S.lq t)))), (4, .int (iI (S.lq t))), (3, .int (iI (t : Int))), (0, .ref m), (1, .int (iI k))]) rfl) ?_
      refine pe_go (pc := 63) rfl (s_iinc (x := (t : Int)) (y := ((t + 1 : Nat) : Int)) rfl (by omega) (lv' := [(3, .int (iI ((t + 1 : Nat) : Int))), (2, .int (iI (r + 1))), (5, .int (iI ((((S.qs t 0) + (S.qs t 1)) + (S.qs t 2)) - (S.lq t)))), (4, .int (iI (S.lq t))), (0, .ref m), (1, .int (iI k))]) rfl) ?_
      refine pe_go (pc := 66) rfl s_goto ?_
      rw [cntF_y (P := (S.angP k)) (show (S.angP k) t from by first | assumption | (intro z; exact absurd (by assumption) z))]
      refine pe_few (lv := [(3, .int (iI ((t + 1 : Nat) : Int))), (2, .int (iI (r + 1))), (0, .ref m), (1, .int (iI k))]) rfl rfl (by intro q hq; simp only [List.mem_cons, List.not_mem_nil, or_false] at hq; rcases hq with rfl | rfl | rfl | rfl <;> rfl) ?_
      exact ih (t + 1) (r + 1) (by omega)
    · skip
      refine pe_go rfl (s_icmp_ne_t (by unfold zcmp; split; decide; split <;> decide) hk c1) ?_
      refine pe_go (pc := 63) rfl (s_iinc (x := (t : Int)) (y := ((t + 1 : Nat) : Int)) rfl (by omega) (lv' := [(3, .int (iI ((t + 1 : Nat) : Int))), (5, .int (iI ((((S.qs t 0) + (S.qs t 1)) + (S.qs t 2)) - (S.lq t)))), (4, .int (iI (S.lq t))), (2, .int (iI r)), (0, .ref m), (1, .int (iI k))]) rfl) ?_
      refine pe_go (pc := 66) rfl s_goto ?_
      rw [cntF_n (P := (S.angP k)) (show ¬ (S.angP k) t from by first | assumption | (intro z; exact absurd (by assumption) z))]
      refine pe_few (lv := [(3, .int (iI ((t + 1 : Nat) : Int))), (2, .int (iI r)), (0, .ref m), (1, .int (iI k))]) rfl rfl (by intro q hq; simp only [List.mem_cons, List.not_mem_nil, or_false] at hq; rcases hq with rfl | rfl | rfl | rfl <;> rfl) ?_
      exact ih (t + 1) r (by omega)
theorem c_countAngles {pre post : pW} {m : Nat} (hm : pre.length = m) (S : St) {T : Nat} (hT : S.tn = (T : Int)) (hT2 : T ≤ 74) {k : Int} (hk : sm k) (hC : S.okC) (h : S.inB) : pRun 46 [.ref m, .int (iI k)] (pre ++ (mB m S ++ post)) (some (.int (iI (cntF (S.angP k) T 0 0)))) (pre ++ (mB m S ++ post)) := by
  refine qx_run ?_
  refine pc_run (lv := [(0, .ref m), (1, .int (iI k))]) rfl ?_
  refine pe_go (pc := 0) rfl (s_iconst (z := 0) rfl) ?_
  refine pe_go (pc := 1) rfl (s_istore_n (lv' := [(2, .int (iI 0)), (0, .ref m), (1, .int (iI k))]) rfl) ?_
  refine pe_go (pc := 2) rfl (s_iconst (z := 0) rfl) ?_
  refine pe_go (pc := 3) rfl (s_istore_n (lv' := [(3, .int (iI 0)), (2, .int (iI 0)), (0, .ref m), (1, .int (iI k))]) rfl) ?_
  exact l_countAngles hm S hT hT2 hk hC h T 0 0 (by omega)
