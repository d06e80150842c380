/-! THE CLASS: what was told. Rows laid by program (wip/p63/wk.py, mk30.py). -/
/-- all places, also of points that are gone, lie in the square -/
def St.inB (S : St) : Prop := ∀ j : Nat, j < 40 → -1000 ≤ S.xs j ∧ S.xs j ≤ 1000 ∧ -1000 ≤ S.ys j ∧ S.ys j ≤ 1000
abbrev inSq (x y : Int) : Prop := -1000 ≤ x ∧ x ≤ 1000 ∧ -1000 ≤ y ∧ y ≤ 1000
def tn6 (ax ay bx ly cx cy : Int) : Int := (bx - ax) * (cy - ay) - (ly - ay) * (cx - ax)
def St.sd (S : St) (a b : Nat) (x y : Int) : Int := (S.xs b - S.xs a) * (y - S.ys a) - (S.ys b - S.ys a) * (x - S.xs a)
def St.sd3 (S : St) (a b c : Nat) : Int := S.sd a b (S.xs c) (S.ys c)
def St.sq (S : St) (a b : Nat) : Int := (S.xs a - S.xs b) * (S.xs a - S.xs b) + (S.ys a - S.ys b) * (S.ys a - S.ys b)
def St.dot (S : St) (a b p : Nat) : Int := (S.xs a - S.xs p) * (S.xs b - S.xs p) + (S.ys a - S.ys p) * (S.ys b - S.ys p)
abbrev opp (x y : Int) : Prop := (x < 0 ∧ 0 < y) ∨ (0 < x ∧ y < 0)
abbrev St.has (S : St) (p : Nat) : Prop := bt S.th p = true
abbrev St.bound (S : St) (a b : Nat) : Prop := bt (S.fx a) b = true
abbrev St.betw (S : St) (a b p : Nat) : Prop := S.sd3 a b p = 0 ∧ S.dot a b p < 0
abbrev St.cut (S : St) (a b : Nat) (x y X Y : Int) : Prop := opp (S.sd a b x y) (S.sd a b X Y) ∧ opp (tn6 x y X Y (S.xs a) (S.ys a)) (tn6 x y X Y (S.xs b) (S.ys b))
def St.ahead (S : St) (a b : Nat) : Nat := if S.xs a = S.xs b then (if S.ys a ≤ S.ys b then a else b) else (if S.xs a < S.xs b then a else b)
theorem mul_b {x y a b : Int} (h1 : -a ≤ x) (h2 : x ≤ a) (h3 : -b ≤ y) (h4 : y ≤ b) : -(a * b) ≤ x * y ∧ x * y ≤ a * b := by
  have ha : 0 ≤ a := by omega
  have hb : 0 ≤ b := by omega
  have e1 : x * y ≤ a * b := by
    rcases Int.le_total 0 x with hx | hx
    · rcases Int.le_total 0 y with hy | hy
      · exact Int.mul_le_mul h2 h4 hy ha
      · have := Int.mul_nonpos_of_nonneg_of_nonpos hx hy
        have := Int.mul_nonneg ha hb
        omega
    · rcases Int.le_total 0 y with hy | hy
      · have := Int.mul_nonpos_of_nonpos_of_nonneg hx hy
        have := Int.mul_nonneg ha hb
        omega
      · have h := Int.mul_le_mul (show -x ≤ a by omega) (show -y ≤ b by omega) (by omega) ha
        rw [Int.neg_mul_neg] at h
        exact h
  have e2 : (-x) * y ≤ a * b := by
    rcases Int.le_total 0 x with hx | hx
    · rcases Int.le_total 0 y with hy | hy
      · have := Int.mul_nonneg hx hy
        have := Int.mul_nonneg ha hb
        rw [Int.neg_mul]
        omega
      · have h := Int.mul_le_mul h2 (show -y ≤ b by omega) (by omega) ha
        rw [Int.mul_neg] at h
        rw [Int.neg_mul]
        exact h
    · rcases Int.le_total 0 y with hy | hy
      · exact Int.mul_le_mul (show -x ≤ a by omega) h4 hy ha
      · have := Int.mul_nonneg_of_nonpos_of_nonpos hx hy
        have := Int.mul_nonneg ha hb
        rw [Int.neg_mul]
        omega
  rw [Int.neg_mul] at e2
  exact ⟨by omega, e1⟩
theorem tn6_b {ax ay bx ly cx cy : Int} (ha : inSq ax ay) (hb : inSq bx ly) (hc : inSq cx cy) : -8000000 ≤ tn6 ax ay bx ly cx cy ∧ tn6 ax ay bx ly cx cy ≤ 8000000 := by
  obtain ⟨a1, a2, a3, a4⟩ := ha
  obtain ⟨b1, b2, b3, b4⟩ := hb
  obtain ⟨c1, c2, c3, c4⟩ := hc
  have h1 := mul_b (x := bx - ax) (y := cy - ay) (a := 2000) (b := 2000) (by omega) (by omega) (by omega) (by omega)
  have h2 := mul_b (x := ly - ay) (y := cx - ax) (a := 2000) (b := 2000) (by omega) (by omega) (by omega) (by omega)
  unfold tn6
  omega
theorem St.sd_b {S : St} (h : S.inB) {a b : Nat} {x y : Int} (ha : a < 40) (hb : b < 40) (hq : inSq x y) : -8000000 ≤ S.sd a b x y ∧ S.sd a b x y ≤ 8000000 := tn6_b (h a ha) (h b hb) hq
theorem St.sd3_b {S : St} (h : S.inB) {a b c : Nat} (ha : a < 40) (hb : b < 40) (hc : c < 40) : -8000000 ≤ S.sd3 a b c ∧ S.sd3 a b c ≤ 8000000 := S.sd_b h ha hb (h c hc)
theorem St.sq_b {S : St} (h : S.inB) {a b : Nat} (ha : a < 40) (hb : b < 40) : 0 ≤ S.sq a b ∧ S.sq a b ≤ 8000000 := by
  obtain ⟨a1, a2, a3, a4⟩ := h a ha
  obtain ⟨b1, b2, b3, b4⟩ := h b hb
  have h1 := mul_b (x := S.xs a - S.xs b) (y := S.xs a - S.xs b) (a := 2000) (b := 2000) (by omega) (by omega) (by omega) (by omega)
  have h2 := mul_b (x := S.ys a - S.ys b) (y := S.ys a - S.ys b) (a := 2000) (b := 2000) (by omega) (by omega) (by omega) (by omega)
  have h3 : 0 ≤ (S.xs a - S.xs b) * (S.xs a - S.xs b) := by rcases Int.le_total 0 (S.xs a - S.xs b) with g | g; exact Int.mul_nonneg g g; exact Int.mul_nonneg_of_nonpos_of_nonpos g g
  have h4 : 0 ≤ (S.ys a - S.ys b) * (S.ys a - S.ys b) := by rcases Int.le_total 0 (S.ys a - S.ys b) with g | g; exact Int.mul_nonneg g g; exact Int.mul_nonneg_of_nonpos_of_nonpos g g
  unfold St.sq
  omega
theorem St.dot_b {S : St} (h : S.inB) {a b p : Nat} (ha : a < 40) (hb : b < 40) (hp : p < 40) : -8000000 ≤ S.dot a b p ∧ S.dot a b p ≤ 8000000 := by
  obtain ⟨a1, a2, a3, a4⟩ := h a ha
  obtain ⟨b1, b2, b3, b4⟩ := h b hb
  obtain ⟨c1, c2, c3, c4⟩ := h p hp
  have h1 := mul_b (x := S.xs a - S.xs p) (y := S.xs b - S.xs p) (a := 2000) (b := 2000) (by omega) (by omega) (by omega) (by omega)
  have h2 := mul_b (x := S.ys a - S.ys p) (y := S.ys b - S.ys p) (a := 2000) (b := 2000) (by omega) (by omega) (by omega) (by omega)
  unfold St.dot
  omega
theorem c_inSq {w : pW} {x y : Int} (hx : sm x) (hy : sm y) : pRun 120 [.int (iI x), .int (iI y)] w (some (.int (bI (decide (inSq x y))))) w := by
  refine qx_run ?_
  refine pc_run (lv := [(0, .int (iI x)), (1, .int (iI y))]) rfl ?_
  refine pe_go (pc := 0) rfl (s_iload_n rfl) ?_
  refine pe_go (pc := 1) rfl (s_sipush (z := -1000) rfl) ?_
  by_cases c1 : x < (-1000)
  · skip
    refine pe_go rfl (s_icmp_lt_t ⟨by omega, by omega⟩ ⟨by decide, by decide⟩ c1) ?_
    refine pe_go (pc := 32) rfl (s_iconst (z := 0) rfl) ?_
    exact pe_ret rfl s_ret0 ⟨by rw [decide_eq_false (show ¬ (inSq x y) from (by omega))], rfl⟩
  · skip
    refine pe_go rfl (s_icmp_lt_f ⟨by omega, by omega⟩ ⟨by decide, by decide⟩ c1) ?_
    refine pe_go (pc := 7) rfl (s_iload_n rfl) ?_
    refine pe_go (pc := 8) rfl (s_sipush (z := 1000) rfl) ?_
    by_cases c2 : 1000 < x
    · skip
      refine pe_go rfl (s_icmp_gt_t ⟨by omega, by omega⟩ ⟨by decide, by decide⟩ c2) ?_
      refine pe_go (pc := 32) rfl (s_iconst (z := 0) rfl) ?_
      exact pe_ret rfl s_ret0 ⟨by rw [decide_eq_false (show ¬ (inSq x y) from (by omega))], rfl⟩
    · skip
      refine pe_go rfl (s_icmp_gt_f ⟨by omega, by omega⟩ ⟨by decide, by decide⟩ c2) ?_
      refine pe_go (pc := 14) rfl (s_iload_n rfl) ?_
      refine pe_go (pc := 15) rfl (s_sipush (z := -1000) rfl) ?_
      by_cases c3 : y < (-1000)
      · skip
        refine pe_go rfl (s_icmp_lt_t ⟨by omega, by omega⟩ ⟨by decide, by decide⟩ c3) ?_
        refine pe_go (pc := 32) rfl (s_iconst (z := 0) rfl) ?_
        exact pe_ret rfl s_ret0 ⟨by rw [decide_eq_false (show ¬ (inSq x y) from (by omega))], rfl⟩
      · skip
        refine pe_go rfl (s_icmp_lt_f ⟨by omega, by omega⟩ ⟨by decide, by decide⟩ c3) ?_
        refine pe_go (pc := 21) rfl (s_iload_n rfl) ?_
        refine pe_go (pc := 22) rfl (s_sipush (z := 1000) rfl) ?_
        by_cases c4 : 1000 < y
        · skip
          refine pe_go rfl (s_icmp_gt_t ⟨by omega, by omega⟩ ⟨by decide, by decide⟩ c4) ?_
          refine pe_go (pc := 32) rfl (s_iconst (z := 0) rfl) ?_
          exact pe_ret rfl s_ret0 ⟨by rw [decide_eq_false (show ¬ (inSq x y) from (by omega))], rfl⟩
        · skip
          refine pe_go rfl (s_icmp_gt_f ⟨by omega, by omega⟩ ⟨by decide, by decide⟩ c4) ?_
          refine pe_go (pc := 28) rfl (s_iconst (z := 1) rfl) ?_
          refine pe_go (pc := 29) rfl s_goto ?_
          exact pe_ret rfl s_ret1 ⟨by rw [decide_eq_true (show inSq x y from (by omega))], rfl⟩
theorem c_turn {w : pW} {ax ay bx ly cx cy : Int} : pRun 121 [.int (iI ax), .int (iI ay), .int (iI bx), .int (iI ly), .int (iI cx), .int (iI cy)] w (some (.int (iI (tn6 ax ay bx ly cx cy)))) w := by
  refine qx_run ?_
  refine pc_run (lv := [(0, .int (iI ax)), (1, .int (iI ay)), (2, .int (iI bx)), (3, .int (iI ly)), (4, .int (iI cx)), (5, .int (iI cy))]) rfl ?_
  refine pe_go (pc := 0) rfl (s_iload_n rfl) ?_
  refine pe_go (pc := 1) rfl (s_iload_n rfl) ?_
  refine pe_go (pc := 2) rfl s_isub ?_
  refine pe_go (pc := 3) rfl (s_iload rfl) ?_
  refine pe_go (pc := 5) rfl (s_iload_n rfl) ?_
  refine pe_go (pc := 6) rfl s_isub ?_
  refine pe_go (pc := 7) rfl s_imul ?_
  refine pe_go (pc := 8) rfl (s_iload_n rfl) ?_
  refine pe_go (pc := 9) rfl (s_iload_n rfl) ?_
  refine pe_go (pc := 10) rfl s_isub ?_
  refine pe_go (pc := 11) rfl (s_iload rfl) ?_
  refine pe_go (pc := 13) rfl (s_iload_n rfl) ?_
  refine pe_go (pc := 14) rfl s_isub ?_
  refine pe_go (pc := 15) rfl s_imul ?_
  refine pe_go (pc := 16) rfl s_isub ?_
  exact pe_ret rfl s_reti ⟨rfl, rfl⟩
theorem c_opp {w : pW} {x y : Int} (hx : sm x) (hy : sm y) : pRun 122 [.int (iI x), .int (iI y)] w (some (.int (bI (decide (opp x y))))) w := by
  refine qx_run ?_
  refine pc_run (lv := [(0, .int (iI x)), (1, .int (iI y))]) rfl ?_
  refine pe_go (pc := 0) rfl (s_iload_n rfl) ?_
  by_cases c1 : 0 ≤ x
  · skip
    refine pe_go rfl (s_if_ge_t ⟨by omega, by omega⟩ c1) ?_
    refine pe_go (pc := 8) rfl (s_iload_n rfl) ?_
    by_cases c2 : x ≤ 0
    · skip
      refine pe_go rfl (s_if_le_t ⟨by omega, by omega⟩ c2) ?_
      refine pe_go (pc := 20) rfl (s_iconst (z := 0) rfl) ?_
      exact pe_ret rfl s_ret0 ⟨by rw [decide_eq_false (show ¬ (opp x y) from (by omega))], rfl⟩
    · skip
      refine pe_go rfl (s_if_le_f ⟨by omega, by omega⟩ c2) ?_
      refine pe_go (pc := 12) rfl (s_iload_n rfl) ?_
      by_cases c3 : 0 ≤ y
      · skip
        refine pe_go rfl (s_if_ge_t ⟨by omega, by omega⟩ c3) ?_
        refine pe_go (pc := 20) rfl (s_iconst (z := 0) rfl) ?_
        exact pe_ret rfl s_ret0 ⟨by rw [decide_eq_false (show ¬ (opp x y) from (by omega))], rfl⟩
      · skip
        refine pe_go rfl (s_if_ge_f ⟨by omega, by omega⟩ c3) ?_
        refine pe_go (pc := 16) rfl (s_iconst (z := 1) rfl) ?_
        refine pe_go (pc := 17) rfl s_goto ?_
        exact pe_ret rfl s_ret1 ⟨by rw [decide_eq_true (show opp x y from (by omega))], rfl⟩
  · skip
    refine pe_go rfl (s_if_ge_f ⟨by omega, by omega⟩ c1) ?_
    refine pe_go (pc := 4) rfl (s_iload_n rfl) ?_
    by_cases c4 : 0 < y
    · skip
      refine pe_go rfl (s_if_gt_t ⟨by omega, by omega⟩ c4) ?_
      refine pe_go (pc := 16) rfl (s_iconst (z := 1) rfl) ?_
      refine pe_go (pc := 17) rfl s_goto ?_
      exact pe_ret rfl s_ret1 ⟨by rw [decide_eq_true (show opp x y from (by omega))], rfl⟩
    · skip
      refine pe_go rfl (s_if_gt_f ⟨by omega, by omega⟩ c4) ?_
      refine pe_go (pc := 8) rfl (s_iload_n rfl) ?_
      by_cases c5 : x ≤ 0
      · skip
        refine pe_go rfl (s_if_le_t ⟨by omega, by omega⟩ c5) ?_
        refine pe_go (pc := 20) rfl (s_iconst (z := 0) rfl) ?_
        exact pe_ret rfl s_ret0 ⟨by rw [decide_eq_false (show ¬ (opp x y) from (by omega))], rfl⟩
      · skip
        refine pe_go rfl (s_if_le_f ⟨by omega, by omega⟩ c5) ?_
        refine pe_go (pc := 12) rfl (s_iload_n rfl) ?_
        by_cases c6 : 0 ≤ y
        · skip
          refine pe_go rfl (s_if_ge_t ⟨by omega, by omega⟩ c6) ?_
          refine pe_go (pc := 20) rfl (s_iconst (z := 0) rfl) ?_
          exact pe_ret rfl s_ret0 ⟨by rw [decide_eq_false (show ¬ (opp x y) from (by omega))], rfl⟩
        · skip
          refine pe_go rfl (s_if_ge_f ⟨by omega, by omega⟩ c6) ?_
          refine pe_go (pc := 16) rfl (s_iconst (z := 1) rfl) ?_
          refine pe_go (pc := 17) rfl s_goto ?_
          exact pe_ret rfl s_ret1 ⟨by rw [decide_eq_true (show opp x y from (by omega))], rfl⟩
theorem c_has {pre post : pW} {m : Nat} (hm : pre.length = m) (S : St) {p : Nat} (hp : p < 40) : pRun 64 [.ref (m + 1), .int (iI (p : Int))] (pre ++ (mB m S ++ post)) (some (.int (bI (decide (S.has p))))) (pre ++ (mB m S ++ post)) := by
  refine qx_run ?_
  refine pc_run (lv := [(0, .ref (m + 1)), (1, .int (iI (p : Int)))]) rfl ?_
  refine pe_go (pc := 0) rfl (s_iload_n rfl) ?_
  refine pe_go rfl (s_if_lt_f ⟨by omega, by omega⟩ (by omega)) ?_
  refine pe_go (pc := 4) rfl (s_iload_n rfl) ?_
  refine pe_go (pc := 5) rfl (s_bipush (z := 40) rfl) ?_
  refine pe_go rfl (s_icmp_ge_f ⟨by omega, by omega⟩ ⟨by decide, by decide⟩ (by omega)) ?_
  refine pe_go (pc := 10) rfl (s_aload_n rfl) ?_
  refine pe_go (pc := 11) rfl (s_getf (v := .long S.th) (gA hm (mB_1 _ _ _)) rfl) ?_
  refine pe_go (pc := 14) rfl (s_iload_n rfl) ?_
  refine pe_go (pc := 15) rfl s_lushr ?_
  refine pe_go (pc := 16) rfl s_lconst1 ?_
  refine pe_go (pc := 17) rfl (s_bit (k := p) (by omega) (by omega)) ?_
  refine pe_go (pc := 18) rfl s_lconst0 ?_
  refine pe_go (pc := 19) rfl s_cmpbit ?_
  by_cases b1 : bt S.th p = true
  · skip
    refine pe_go rfl (s_ifeq_true b1) ?_
    refine pe_go (pc := 23) rfl (s_iconst (z := 1) rfl) ?_
    refine pe_go (pc := 24) rfl s_goto ?_
    exact pe_ret rfl s_ret1 ⟨by rw [decide_eq_true (show S.has p from (by assumption))], rfl⟩
  · skip
    refine pe_go rfl (s_ifeq_false (eq_false_of_ne_true b1)) ?_
    refine pe_go (pc := 27) rfl (s_iconst (z := 0) rfl) ?_
    exact pe_ret rfl s_ret0 ⟨by rw [decide_eq_false (show ¬ (S.has p) from (by assumption))], rfl⟩
theorem c_hasN {pre post : pW} {m : Nat} (hm : pre.length = m) (S : St) {z : Int} (hz : sm z) (h : z < 0 ∨ 40 ≤ z) : pRun 64 [.ref (m + 1), .int (iI z)] (pre ++ (mB m S ++ post)) (some (.int (bI false))) (pre ++ (mB m S ++ post)) := by
  refine qx_run ?_
  refine pc_run (lv := [(0, .ref (m + 1)), (1, .int (iI z))]) rfl ?_
  refine pe_go (pc := 0) rfl (s_iload_n rfl) ?_
  by_cases c1 : z < 0
  · skip
    refine pe_go rfl (s_if_lt_t ⟨by omega, by omega⟩ c1) ?_
    refine pe_go (pc := 27) rfl (s_iconst (z := 0) rfl) ?_
    exact pe_ret rfl s_ret0 ⟨rfl, rfl⟩
  · skip
    refine pe_go rfl (s_if_lt_f ⟨by omega, by omega⟩ c1) ?_
    refine pe_go (pc := 4) rfl (s_iload_n rfl) ?_
    refine pe_go (pc := 5) rfl (s_bipush (z := 40) rfl) ?_
    refine pe_go rfl (s_icmp_ge_t ⟨by omega, by omega⟩ ⟨by decide, by decide⟩ (by omega)) ?_
    refine pe_go (pc := 27) rfl (s_iconst (z := 0) rfl) ?_
    exact pe_ret rfl s_ret0 ⟨rfl, rfl⟩
theorem c_place {pre post : pW} {m : Nat} (hm : pre.length = m) (S : St) {p : Nat} (hp : p < 40) {x y : Int} : pRun 66 [.ref (m + 1), .int (iI (p : Int)), .int (iI x), .int (iI y)] (pre ++ (mB m S ++ post)) none (pre ++ (mB m (((S.u_xs (uZ S.xs p x)).u_ys (uZ S.ys p y)).u_th (bSet S.th p)) ++ post)) := by
  refine qx_run ?_
  refine pc_run (lv := [(0, .ref (m + 1)), (1, .int (iI (p : Int))), (2, .int (iI x)), (3, .int (iI y))]) rfl ?_
  refine pe_go (pc := 0) rfl (s_aload_n rfl) ?_
  refine pe_go (pc := 1) rfl (s_getf (v := .ref (m + 2)) (gA hm (mB_1 _ _ _)) rfl) ?_
  refine pe_go (pc := 4) rfl (s_iload_n rfl) ?_
  refine pe_go (pc := 5) rfl (s_iload_n rfl) ?_
  refine pe_go (pc := 6) rfl (s_iast (n := 40) (f := S.xs) (w' := pre ++ (mB m (S.u_xs (uZ S.xs p x)) ++ post)) (gA hm (mB_xs _ _ _)) (k := p) (by omega) (by omega) (by decide) (gS hm (mB_s_xs _ _ _ _))) ?_
  refine pe_go (pc := 7) rfl (s_aload_n rfl) ?_
  refine pe_go (pc := 8) rfl (s_getf (v := .ref (m + 3)) (gA hm (mB_1 _ _ _)) rfl) ?_
  refine pe_go (pc := 11) rfl (s_iload_n rfl) ?_
  refine pe_go (pc := 12) rfl (s_iload_n rfl) ?_
  refine pe_go (pc := 13) rfl (s_iast (n := 40) (f := S.ys) (w' := pre ++ (mB m ((S.u_xs (uZ S.xs p x)).u_ys (uZ S.ys p y)) ++ post)) (gA hm (mB_ys _ _ _)) (k := p) (by omega) (by omega) (by decide) (gS hm (mB_s_ys _ _ _ _))) ?_
  refine pe_go (pc := 14) rfl (s_aload_n rfl) ?_
  refine pe_go (pc := 15) rfl (s_dup rfl) ?_
  refine pe_go (pc := 16) rfl (s_getf (v := .long S.th) (gA hm (mB_1 _ _ _)) rfl) ?_
  refine pe_go (pc := 19) rfl s_lconst1 ?_
  refine pe_go (pc := 20) rfl (s_iload_n rfl) ?_
  refine pe_go (pc := 21) rfl (s_bit1 (k := p) (by omega) (by omega)) ?_
  refine pe_go (pc := 22) rfl s_bset ?_
  refine pe_go (pc := 23) rfl (s_putf (w' := pre ++ (mB m (((S.u_xs (uZ S.xs p x)).u_ys (uZ S.ys p y)).u_th (bSet S.th p)) ++ post)) (gA hm (mB_1 _ _ _)) (Nat.le_of_ble_eq_true rfl) rfl (gS hm (mB_s_th _ _ _ _))) ?_
  exact pe_ret rfl s_retv ⟨rfl, rfl⟩
theorem c_remove {pre post : pW} {m : Nat} (hm : pre.length = m) (S : St) {p : Nat} (hp : p < 40) : pRun 67 [.ref (m + 1), .int (iI (p : Int))] (pre ++ (mB m S ++ post)) none (pre ++ (mB m (S.u_th (bClr S.th p)) ++ post)) := by
  refine qx_run ?_
  refine pc_run (lv := [(0, .ref (m + 1)), (1, .int (iI (p : Int)))]) rfl ?_
  refine pe_go (pc := 0) rfl (s_aload_n rfl) ?_
  refine pe_go (pc := 1) rfl (s_dup rfl) ?_
  refine pe_go (pc := 2) rfl (s_getf (v := .long S.th) (gA hm (mB_1 _ _ _)) rfl) ?_
  refine pe_go (pc := 5) rfl s_lconst1 ?_
  refine pe_go (pc := 6) rfl (s_iload_n rfl) ?_
  refine pe_go (pc := 7) rfl (s_bit1 (k := p) (by omega) (by omega)) ?_
  refine pe_go (pc := 8) rfl (s_ldc2 (y := -1) rfl) ?_
  refine pe_go (pc := 11) rfl s_bnot ?_
  refine pe_go (pc := 12) rfl s_bclr ?_
  refine pe_go (pc := 13) rfl (s_putf (w' := pre ++ (mB m (S.u_th (bClr S.th p)) ++ post)) (gA hm (mB_1 _ _ _)) (Nat.le_of_ble_eq_true rfl) rfl (gS hm (mB_s_th _ _ _ _))) ?_
  exact pe_ret rfl s_retv ⟨rfl, rfl⟩
theorem c_isBound {pre post : pW} {m : Nat} (hm : pre.length = m) (S : St) {a b : Nat} (ha : a < 40) (hb : b < 40) : pRun 73 [.ref (m + 1), .int (iI (a : Int)), .int (iI (b : Int))] (pre ++ (mB m S ++ post)) (some (.int (bI (decide (S.bound a b))))) (pre ++ (mB m S ++ post)) := by
  refine qx_run ?_
  refine pc_run (lv := [(0, .ref (m + 1)), (1, .int (iI (a : Int))), (2, .int (iI (b : Int)))]) rfl ?_
  refine pe_go (pc := 0) rfl (s_aload_n rfl) ?_
  refine pe_go (pc := 1) rfl (s_getf (v := .ref (m + 5)) (gA hm (mB_1 _ _ _)) rfl) ?_
  refine pe_go (pc := 4) rfl (s_iload_n rfl) ?_
  refine pe_go (pc := 5) rfl (s_lald (n := 40) (f := S.fx) (v := S.fx a) (gA hm (mB_fx _ _ _)) (k := a) (by omega) (by omega) (by decide) rfl) ?_
  refine pe_go (pc := 6) rfl (s_iload_n rfl) ?_
  refine pe_go (pc := 7) rfl s_lushr ?_
  refine pe_go (pc := 8) rfl s_lconst1 ?_
  refine pe_go (pc := 9) rfl (s_bit (k := b) (by omega) (by omega)) ?_
  refine pe_go (pc := 10) rfl s_lconst0 ?_
  refine pe_go (pc := 11) rfl s_cmpbit ?_
  by_cases b1 : bt (S.fx a) b = true
  · skip
    refine pe_go rfl (s_ifeq_true b1) ?_
    refine pe_go (pc := 15) rfl (s_iconst (z := 1) rfl) ?_
    refine pe_go (pc := 16) rfl s_goto ?_
    exact pe_ret rfl s_ret1 ⟨by rw [decide_eq_true (show S.bound a b from (by assumption))], rfl⟩
  · skip
    refine pe_go rfl (s_ifeq_false (eq_false_of_ne_true b1)) ?_
    refine pe_go (pc := 19) rfl (s_iconst (z := 0) rfl) ?_
    exact pe_ret rfl s_ret0 ⟨by rw [decide_eq_false (show ¬ (S.bound a b) from (by assumption))], rfl⟩
theorem c_bind {pre post : pW} {m : Nat} (hm : pre.length = m) (S : St) {a b : Nat} (ha : a < 40) (hb : b < 40) : pRun 74 [.ref (m + 1), .int (iI (a : Int)), .int (iI (b : Int))] (pre ++ (mB m S ++ post)) none (pre ++ (mB m (S.u_fx (vp_updL (vp_updL S.fx a (bSet (S.fx a) b)) b (bSet (vp_updL S.fx a (bSet (S.fx a) b) b) a))) ++ post)) := by
  refine qx_run ?_
  refine pc_run (lv := [(0, .ref (m + 1)), (1, .int (iI (a : Int))), (2, .int (iI (b : Int)))]) rfl ?_
  refine pe_go (pc := 0) rfl (s_aload_n rfl) ?_
  refine pe_go (pc := 1) rfl (s_getf (v := .ref (m + 5)) (gA hm (mB_1 _ _ _)) rfl) ?_
  refine pe_go (pc := 4) rfl (s_iload_n rfl) ?_
  refine pe_go (pc := 5) rfl s_dup2 ?_
  refine pe_go (pc := 6) rfl (s_lald (n := 40) (f := S.fx) (v := S.fx a) (gA hm (mB_fx _ _ _)) (k := a) (by omega) (by omega) (by decide) rfl) ?_
  refine pe_go (pc := 7) rfl s_lconst1 ?_
  refine pe_go (pc := 8) rfl (s_iload_n rfl) ?_
  refine pe_go (pc := 9) rfl (s_bit1 (k := b) (by omega) (by omega)) ?_
  refine pe_go (pc := 10) rfl s_bset ?_
  refine pe_go (pc := 11) rfl (s_last (n := 40) (f := S.fx) (w' := pre ++ (mB m (S.u_fx (vp_updL S.fx a (bSet (S.fx a) b))) ++ post)) (gA hm (mB_fx _ _ _)) (k := a) (by omega) (by omega) (by decide) (gS hm (mB_s_fx _ _ _ _))) ?_
  refine pe_go (pc := 12) rfl (s_aload_n rfl) ?_
  refine pe_go (pc := 13) rfl (s_getf (v := .ref (m + 5)) (gA hm (mB_1 _ _ _)) rfl) ?_
  refine pe_go (pc := 16) rfl (s_iload_n rfl) ?_
  refine pe_go (pc := 17) rfl s_dup2 ?_
  refine pe_go (pc := 18) rfl (s_lald (n := 40) (f := vp_updL S.fx a (bSet (S.fx a) b)) (v := (vp_updL S.fx a (bSet (S.fx a) b)) b) (gA hm (mB_fx _ _ _)) (k := b) (by omega) (by omega) (by decide) rfl) ?_
  refine pe_go (pc := 19) rfl s_lconst1 ?_
  refine pe_go (pc := 20) rfl (s_iload_n rfl) ?_
  refine pe_go (pc := 21) rfl (s_bit1 (k := a) (by omega) (by omega)) ?_
  refine pe_go (pc := 22) rfl s_bset ?_
  refine pe_go (pc := 23) rfl (s_last (n := 40) (f := vp_updL S.fx a (bSet (S.fx a) b)) (w' := pre ++ (mB m (S.u_fx (vp_updL (vp_updL S.fx a (bSet (S.fx a) b)) b (bSet ((vp_updL S.fx a (bSet (S.fx a) b)) b) a))) ++ post)) (gA hm (mB_fx _ _ _)) (k := b) (by omega) (by omega) (by decide) (gS hm (mB_s_fx _ _ _ _))) ?_
  exact pe_ret rfl s_retv ⟨rfl, rfl⟩
theorem c_unbind {pre post : pW} {m : Nat} (hm : pre.length = m) (S : St) {a b : Nat} (ha : a < 40) (hb : b < 40) : pRun 75 [.ref (m + 1), .int (iI (a : Int)), .int (iI (b : Int))] (pre ++ (mB m S ++ post)) none (pre ++ (mB m (S.u_fx (vp_updL (vp_updL S.fx a (bClr (S.fx a) b)) b (bClr (vp_updL S.fx a (bClr (S.fx a) b) b) a))) ++ post)) := by
  refine qx_run ?_
  refine pc_run (lv := [(0, .ref (m + 1)), (1, .int (iI (a : Int))), (2, .int (iI (b : Int)))]) rfl ?_
  refine pe_go (pc := 0) rfl (s_aload_n rfl) ?_
  refine pe_go (pc := 1) rfl (s_getf (v := .ref (m + 5)) (gA hm (mB_1 _ _ _)) rfl) ?_
  refine pe_go (pc := 4) rfl (s_iload_n rfl) ?_
  refine pe_go (pc := 5) rfl s_dup2 ?_
  refine pe_go (pc := 6) rfl (s_lald (n := 40) (f := S.fx) (v := S.fx a) (gA hm (mB_fx _ _ _)) (k := a) (by omega) (by omega) (by decide) rfl) ?_
  refine pe_go (pc := 7) rfl s_lconst1 ?_
  refine pe_go (pc := 8) rfl (s_iload_n rfl) ?_
  refine pe_go (pc := 9) rfl (s_bit1 (k := b) (by omega) (by omega)) ?_
  refine pe_go (pc := 10) rfl (s_ldc2 (y := -1) rfl) ?_
  refine pe_go (pc := 13) rfl s_bnot ?_
  refine pe_go (pc := 14) rfl s_bclr ?_
  refine pe_go (pc := 15) rfl (s_last (n := 40) (f := S.fx) (w' := pre ++ (mB m (S.u_fx (vp_updL S.fx a (bClr (S.fx a) b))) ++ post)) (gA hm (mB_fx _ _ _)) (k := a) (by omega) (by omega) (by decide) (gS hm (mB_s_fx _ _ _ _))) ?_
  refine pe_go (pc := 16) rfl (s_aload_n rfl) ?_
  refine pe_go (pc := 17) rfl (s_getf (v := .ref (m + 5)) (gA hm (mB_1 _ _ _)) rfl) ?_
  refine pe_go (pc := 20) rfl (s_iload_n rfl) ?_
  refine pe_go (pc := 21) rfl s_dup2 ?_
  refine pe_go (pc := 22) rfl (s_lald (n := 40) (f := vp_updL S.fx a (bClr (S.fx a) b)) (v := (vp_updL S.fx a (bClr (S.fx a) b)) b) (gA hm (mB_fx _ _ _)) (k := b) (by omega) (by omega) (by decide) rfl) ?_
  refine pe_go (pc := 23) rfl s_lconst1 ?_
  refine pe_go (pc := 24) rfl (s_iload_n rfl) ?_
  refine pe_go (pc := 25) rfl (s_bit1 (k := a) (by omega) (by omega)) ?_
  refine pe_go (pc := 26) rfl (s_ldc2 (y := -1) rfl) ?_
  refine pe_go (pc := 29) rfl s_bnot ?_
  refine pe_go (pc := 30) rfl s_bclr ?_
  refine pe_go (pc := 31) rfl (s_last (n := 40) (f := vp_updL S.fx a (bClr (S.fx a) b)) (w' := pre ++ (mB m (S.u_fx (vp_updL (vp_updL S.fx a (bClr (S.fx a) b)) b (bClr ((vp_updL S.fx a (bClr (S.fx a) b)) b) a))) ++ post)) (gA hm (mB_fx _ _ _)) (k := b) (by omega) (by omega) (by decide) (gS hm (mB_s_fx _ _ _ _))) ?_
  exact pe_ret rfl s_retv ⟨rfl, rfl⟩
theorem c_isLoose {pre post : pW} {m : Nat} (hm : pre.length = m) (S : St) {p : Nat} (hp : p < 40) : pRun 71 [.ref (m + 1), .int (iI (p : Int))] (pre ++ (mB m S ++ post)) (some (.int (bI (decide (S.has p ∧ S.fx p = lI 0))))) (pre ++ (mB m S ++ post)) := by
  refine qx_run ?_
  refine pc_run (lv := [(0, .ref (m + 1)), (1, .int (iI (p : Int)))]) rfl ?_
  refine pe_go (pc := 0) rfl (s_aload_n rfl) ?_
  refine pe_go (pc := 1) rfl (s_iload_n rfl) ?_
  refine pe_call rfl (s_invV rfl (gA hm (mB_1 _ _ _)) rfl rfl) (c_has hm S hp) ?_
  by_cases b1 : S.has p
  · skip
    refine pe_go rfl (s_ifeq_true (decide_eq_true b1)) ?_
    refine pe_go (pc := 8) rfl (s_aload_n rfl) ?_
    refine pe_go (pc := 9) rfl (s_getf (v := .ref (m + 5)) (gA hm (mB_1 _ _ _)) rfl) ?_
    refine pe_go (pc := 12) rfl (s_iload_n rfl) ?_
    refine pe_go (pc := 13) rfl (s_lald (n := 40) (f := S.fx) (v := S.fx p) (gA hm (mB_fx _ _ _)) (k := p) (by omega) (by omega) (by decide) rfl) ?_
    refine pe_go (pc := 14) rfl s_lconst0 ?_
    refine pe_go (pc := 15) rfl s_lcmp ?_
    by_cases d2 : S.fx p = lI 0
    · skip
      refine pe_go rfl (s_ifne_lg_e d2) ?_
      refine pe_go (pc := 19) rfl (s_iconst (z := 1) rfl) ?_
      refine pe_go (pc := 20) rfl s_goto ?_
      exact pe_ret rfl s_ret1 ⟨by rw [decide_eq_true (show S.has p ∧ S.fx p = lI 0 from ⟨by assumption, by assumption⟩)], rfl⟩
    · skip
      refine pe_go rfl (s_ifne_lg_n d2) ?_
      refine pe_go (pc := 23) rfl (s_iconst (z := 0) rfl) ?_
      exact pe_ret rfl s_ret0 ⟨by rw [decide_eq_false (show ¬ (S.has p ∧ S.fx p = lI 0) from (by simp [*]))], rfl⟩
  · skip
    refine pe_go rfl (s_ifeq_false (decide_eq_false b1)) ?_
    refine pe_go (pc := 23) rfl (s_iconst (z := 0) rfl) ?_
    exact pe_ret rfl s_ret0 ⟨by rw [decide_eq_false (show ¬ (S.has p ∧ S.fx p = lI 0) from (by simp [*]))], rfl⟩
theorem c_side {pre post : pW} {m : Nat} (hm : pre.length = m) (S : St) {a b : Nat} (ha : a < 40) (hb : b < 40) {x y : Int} : pRun 77 [.ref (m + 1), .int (iI (a : Int)), .int (iI (b : Int)), .int (iI x), .int (iI y)] (pre ++ (mB m S ++ post)) (some (.int (iI (S.sd a b x y)))) (pre ++ (mB m S ++ post)) := by
  refine qx_run ?_
  refine pc_run (lv := [(0, .ref (m + 1)), (1, .int (iI (a : Int))), (2, .int (iI (b : Int))), (3, .int (iI x)), (4, .int (iI y))]) rfl ?_
  refine pe_go (pc := 0) rfl (s_aload_n rfl) ?_
  refine pe_go (pc := 1) rfl (s_getf (v := .ref (m + 2)) (gA hm (mB_1 _ _ _)) rfl) ?_
  refine pe_go (pc := 4) rfl (s_iload_n rfl) ?_
  refine pe_go (pc := 5) rfl (s_iald (n := 40) (f := S.xs) (v := S.xs b) (gA hm (mB_xs _ _ _)) (k := b) (by omega) (by omega) (by decide) rfl) ?_
  refine pe_go (pc := 6) rfl (s_aload_n rfl) ?_
  refine pe_go (pc := 7) rfl (s_getf (v := .ref (m + 2)) (gA hm (mB_1 _ _ _)) rfl) ?_
  refine pe_go (pc := 10) rfl (s_iload_n rfl) ?_
  refine pe_go (pc := 11) rfl (s_iald (n := 40) (f := S.xs) (v := S.xs a) (gA hm (mB_xs _ _ _)) (k := a) (by omega) (by omega) (by decide) rfl) ?_
  refine pe_go (pc := 12) rfl s_isub ?_
  refine pe_go (pc := 13) rfl (s_iload rfl) ?_
  refine pe_go (pc := 15) rfl (s_aload_n rfl) ?_
  refine pe_go (pc := 16) rfl (s_getf (v := .ref (m + 3)) (gA hm (mB_1 _ _ _)) rfl) ?_
  refine pe_go (pc := 19) rfl (s_iload_n rfl) ?_
  refine pe_go (pc := 20) rfl (s_iald (n := 40) (f := S.ys) (v := S.ys a) (gA hm (mB_ys _ _ _)) (k := a) (by omega) (by omega) (by decide) rfl) ?_
  refine pe_go (pc := 21) rfl s_isub ?_
  refine pe_go (pc := 22) rfl s_imul ?_
  refine pe_go (pc := 23) rfl (s_aload_n rfl) ?_
  refine pe_go (pc := 24) rfl (s_getf (v := .ref (m + 3)) (gA hm (mB_1 _ _ _)) rfl) ?_
  refine pe_go (pc := 27) rfl (s_iload_n rfl) ?_
  refine pe_go (pc := 28) rfl (s_iald (n := 40) (f := S.ys) (v := S.ys b) (gA hm (mB_ys _ _ _)) (k := b) (by omega) (by omega) (by decide) rfl) ?_
  refine pe_go (pc := 29) rfl (s_aload_n rfl) ?_
  refine pe_go (pc := 30) rfl (s_getf (v := .ref (m + 3)) (gA hm (mB_1 _ _ _)) rfl) ?_
  refine pe_go (pc := 33) rfl (s_iload_n rfl) ?_
  refine pe_go (pc := 34) rfl (s_iald (n := 40) (f := S.ys) (v := S.ys a) (gA hm (mB_ys _ _ _)) (k := a) (by omega) (by omega) (by decide) rfl) ?_
  refine pe_go (pc := 35) rfl s_isub ?_
  refine pe_go (pc := 36) rfl (s_iload_n rfl) ?_
  refine pe_go (pc := 37) rfl (s_aload_n rfl) ?_
  refine pe_go (pc := 38) rfl (s_getf (v := .ref (m + 2)) (gA hm (mB_1 _ _ _)) rfl) ?_
  refine pe_go (pc := 41) rfl (s_iload_n rfl) ?_
  refine pe_go (pc := 42) rfl (s_iald (n := 40) (f := S.xs) (v := S.xs a) (gA hm (mB_xs _ _ _)) (k := a) (by omega) (by omega) (by decide) rfl) ?_
  refine pe_go (pc := 43) rfl s_isub ?_
  refine pe_go (pc := 44) rfl s_imul ?_
  refine pe_go (pc := 45) rfl s_isub ?_
  exact pe_ret rfl s_reti ⟨rfl, rfl⟩
theorem c_side3 {pre post : pW} {m : Nat} (hm : pre.length = m) (S : St) {a b : Nat} (ha : a < 40) (hb : b < 40) {c : Nat} (hc : c < 40) : pRun 78 [.ref (m + 1), .int (iI (a : Int)), .int (iI (b : Int)), .int (iI (c : Int))] (pre ++ (mB m S ++ post)) (some (.int (iI (S.sd3 a b c)))) (pre ++ (mB m S ++ post)) := by
  refine qx_run ?_
  refine pc_run (lv := [(0, .ref (m + 1)), (1, .int (iI (a : Int))), (2, .int (iI (b : Int))), (3, .int (iI (c : Int)))]) rfl ?_
  refine pe_go (pc := 0) rfl (s_aload_n rfl) ?_
  refine pe_go (pc := 1) rfl (s_iload_n rfl) ?_
  refine pe_go (pc := 2) rfl (s_iload_n rfl) ?_
  refine pe_go (pc := 3) rfl (s_aload_n rfl) ?_
  refine pe_go (pc := 4) rfl (s_getf (v := .ref (m + 2)) (gA hm (mB_1 _ _ _)) rfl) ?_
  refine pe_go (pc := 7) rfl (s_iload_n rfl) ?_
  refine pe_go (pc := 8) rfl (s_iald (n := 40) (f := S.xs) (v := S.xs c) (gA hm (mB_xs _ _ _)) (k := c) (by omega) (by omega) (by decide) rfl) ?_
  refine pe_go (pc := 9) rfl (s_aload_n rfl) ?_
  refine pe_go (pc := 10) rfl (s_getf (v := .ref (m + 3)) (gA hm (mB_1 _ _ _)) rfl) ?_
  refine pe_go (pc := 13) rfl (s_iload_n rfl) ?_
  refine pe_go (pc := 14) rfl (s_iald (n := 40) (f := S.ys) (v := S.ys c) (gA hm (mB_ys _ _ _)) (k := c) (by omega) (by omega) (by decide) rfl) ?_
  refine pe_call rfl (s_invV rfl (gA hm (mB_1 _ _ _)) rfl rfl) (c_side hm S ha hb) ?_
  exact pe_ret rfl s_reti ⟨rfl, rfl⟩
theorem c_square {pre post : pW} {m : Nat} (hm : pre.length = m) (S : St) {a b : Nat} (ha : a < 40) (hb : b < 40) : pRun 79 [.ref (m + 1), .int (iI (a : Int)), .int (iI (b : Int))] (pre ++ (mB m S ++ post)) (some (.int (iI (S.sq a b)))) (pre ++ (mB m S ++ post)) := by
  refine qx_run ?_
  refine pc_run (lv := [(0, .ref (m + 1)), (1, .int (iI (a : Int))), (2, .int (iI (b : Int)))]) rfl ?_
  refine pe_go (pc := 0) rfl (s_aload_n rfl) ?_
  refine pe_go (pc := 1) rfl (s_getf (v := .ref (m + 2)) (gA hm (mB_1 _ _ _)) rfl) ?_
  refine pe_go (pc := 4) rfl (s_iload_n rfl) ?_
  refine pe_go (pc := 5) rfl (s_iald (n := 40) (f := S.xs) (v := S.xs a) (gA hm (mB_xs _ _ _)) (k := a) (by omega) (by omega) (by decide) rfl) ?_
  refine pe_go (pc := 6) rfl (s_aload_n rfl) ?_
  refine pe_go (pc := 7) rfl (s_getf (v := .ref (m + 2)) (gA hm (mB_1 _ _ _)) rfl) ?_
  refine pe_go (pc := 10) rfl (s_iload_n rfl) ?_
  refine pe_go (pc := 11) rfl (s_iald (n := 40) (f := S.xs) (v := S.xs b) (gA hm (mB_xs _ _ _)) (k := b) (by omega) (by omega) (by decide) rfl) ?_
  refine pe_go (pc := 12) rfl s_isub ?_
  refine pe_go (pc := 13) rfl (s_istore_n (lv' := [(3, .int (iI ((S.xs a) - (S.xs b)))), (0, .ref (m + 1)), (1, .int (iI (a : Int))), (2, .int (iI (b : Int)))]) rfl) ?_
  refine pe_go (pc := 14) rfl (s_aload_n rfl) ?_
  refine pe_go (pc := 15) rfl (s_getf (v := .ref (m + 3)) (gA hm (mB_1 _ _ _)) rfl) ?_
  refine pe_go (pc := 18) rfl (s_iload_n rfl) ?_
  refine pe_go (pc := 19) rfl (s_iald (n := 40) (f := S.ys) (v := S.ys a) (gA hm (mB_ys _ _ _)) (k := a) (by omega) (by omega) (by decide) rfl) ?_
  refine pe_go (pc := 20) rfl (s_aload_n rfl) ?_
  refine pe_go (pc := 21) rfl (s_getf (v := .ref (m + 3)) (gA hm (mB_1 _ _ _)) rfl) ?_
  refine pe_go (pc := 24) rfl (s_iload_n rfl) ?_
  refine pe_go (pc := 25) rfl (s_iald (n := 40) (f := S.ys) (v := S.ys b) (gA hm (mB_ys _ _ _)) (k := b) (by omega) (by omega) (by decide) rfl) ?_
  refine pe_go (pc := 26) rfl s_isub ?_
  refine pe_go (pc := 27) rfl (s_istore (lv' := [(4, .int (iI ((S.ys a) - (S.ys b)))), (3, .int (iI ((S.xs a) - (S.xs b)))), (0, .ref (m + 1)), (1, .int (iI (a : Int))), (2, .int (iI (b : Int)))]) rfl) ?_
  refine pe_go (pc := 29) rfl (s_iload_n rfl) ?_
  refine pe_go (pc := 30) rfl (s_iload_n rfl) ?_
  refine pe_go (pc := 31) rfl s_imul ?_
  refine pe_go (pc := 32) rfl (s_iload rfl) ?_
  refine pe_go (pc := 34) rfl (s_iload rfl) ?_
  refine pe_go (pc := 36) rfl s_imul ?_
  refine pe_go (pc := 37) rfl s_iadd ?_
  exact pe_ret rfl s_reti ⟨rfl, rfl⟩
theorem c_ahead {pre post : pW} {m : Nat} (hm : pre.length = m) (S : St) {a b : Nat} (ha : a < 40) (hb : b < 40) (h : S.inB) : pRun 80 [.ref (m + 1), .int (iI (a : Int)), .int (iI (b : Int))] (pre ++ (mB m S ++ post)) (some (.int (iI (S.ahead a b : Int)))) (pre ++ (mB m S ++ post)) := by
  refine qx_run ?_
  refine pc_run (lv := [(0, .ref (m + 1)), (1, .int (iI (a : Int))), (2, .int (iI (b : Int)))]) rfl ?_
  have b_a := h a ha
  have b_b := h b hb
  refine pe_go (pc := 0) rfl (s_aload_n rfl) ?_
  refine pe_go (pc := 1) rfl (s_getf (v := .ref (m + 2)) (gA hm (mB_1 _ _ _)) rfl) ?_
  refine pe_go (pc := 4) rfl (s_iload_n rfl) ?_
  refine pe_go (pc := 5) rfl (s_iald (n := 40) (f := S.xs) (v := S.xs a) (gA hm (mB_xs _ _ _)) (k := a) (by omega) (by omega) (by decide) rfl) ?_
  refine pe_go (pc := 6) rfl (s_aload_n rfl) ?_
  refine pe_go (pc := 7) rfl (s_getf (v := .ref (m + 2)) (gA hm (mB_1 _ _ _)) rfl) ?_
  refine pe_go (pc := 10) rfl (s_iload_n rfl) ?_
  refine pe_go (pc := 11) rfl (s_iald (n := 40) (f := S.xs) (v := S.xs b) (gA hm (mB_xs _ _ _)) (k := b) (by omega) (by omega) (by decide) rfl) ?_
  by_cases c1 : (S.xs a) = (S.xs b)
  · skip
    refine pe_go rfl (s_icmp_eq_t ⟨by omega, by omega⟩ ⟨by omega, by omega⟩ c1) ?_
    refine pe_go (pc := 36) rfl (s_aload_n rfl) ?_
    refine pe_go (pc := 37) rfl (s_getf (v := .ref (m + 3)) (gA hm (mB_1 _ _ _)) rfl) ?_
    refine pe_go (pc := 40) rfl (s_iload_n rfl) ?_
    refine pe_go (pc := 41) rfl (s_iald (n := 40) (f := S.ys) (v := S.ys a) (gA hm (mB_ys _ _ _)) (k := a) (by omega) (by omega) (by decide) rfl) ?_
    refine pe_go (pc := 42) rfl (s_aload_n rfl) ?_
    refine pe_go (pc := 43) rfl (s_getf (v := .ref (m + 3)) (gA hm (mB_1 _ _ _)) rfl) ?_
    refine pe_go (pc := 46) rfl (s_iload_n rfl) ?_
    refine pe_go (pc := 47) rfl (s_iald (n := 40) (f := S.ys) (v := S.ys b) (gA hm (mB_ys _ _ _)) (k := b) (by omega) (by omega) (by decide) rfl) ?_
    by_cases c2 : (S.ys b) < (S.ys a)
    · skip
      refine pe_go rfl (s_icmp_gt_t ⟨by omega, by omega⟩ ⟨by omega, by omega⟩ c2) ?_
      refine pe_go (pc := 55) rfl (s_iload_n rfl) ?_
      refine pe_ret rfl s_reti ⟨?_, rfl⟩
      unfold St.ahead
      repeat (first | rw [if_pos (by omega)] | rw [if_neg (by omega)])
    · skip
      refine pe_go rfl (s_icmp_gt_f ⟨by omega, by omega⟩ ⟨by omega, by omega⟩ c2) ?_
      refine pe_go (pc := 51) rfl (s_iload_n rfl) ?_
      refine pe_go (pc := 52) rfl s_goto ?_
      refine pe_ret rfl s_reti ⟨?_, rfl⟩
      unfold St.ahead
      repeat (first | rw [if_pos (by omega)] | rw [if_neg (by omega)])
  · skip
    refine pe_go rfl (s_icmp_eq_f ⟨by omega, by omega⟩ ⟨by omega, by omega⟩ c1) ?_
    refine pe_go (pc := 15) rfl (s_aload_n rfl) ?_
    refine pe_go (pc := 16) rfl (s_getf (v := .ref (m + 2)) (gA hm (mB_1 _ _ _)) rfl) ?_
    refine pe_go (pc := 19) rfl (s_iload_n rfl) ?_
    refine pe_go (pc := 20) rfl (s_iald (n := 40) (f := S.xs) (v := S.xs a) (gA hm (mB_xs _ _ _)) (k := a) (by omega) (by omega) (by decide) rfl) ?_
    refine pe_go (pc := 21) rfl (s_aload_n rfl) ?_
    refine pe_go (pc := 22) rfl (s_getf (v := .ref (m + 2)) (gA hm (mB_1 _ _ _)) rfl) ?_
    refine pe_go (pc := 25) rfl (s_iload_n rfl) ?_
    refine pe_go (pc := 26) rfl (s_iald (n := 40) (f := S.xs) (v := S.xs b) (gA hm (mB_xs _ _ _)) (k := b) (by omega) (by omega) (by decide) rfl) ?_
    by_cases c3 : (S.xs b) ≤ (S.xs a)
    · skip
      refine pe_go rfl (s_icmp_ge_t ⟨by omega, by omega⟩ ⟨by omega, by omega⟩ c3) ?_
      refine pe_go (pc := 34) rfl (s_iload_n rfl) ?_
      refine pe_ret rfl s_reti ⟨?_, rfl⟩
      unfold St.ahead
      repeat (first | rw [if_pos (by omega)] | rw [if_neg (by omega)])
    · skip
      refine pe_go rfl (s_icmp_ge_f ⟨by omega, by omega⟩ ⟨by omega, by omega⟩ c3) ?_
      refine pe_go (pc := 30) rfl (s_iload_n rfl) ?_
      refine pe_go (pc := 31) rfl s_goto ?_
      refine pe_ret rfl s_reti ⟨?_, rfl⟩
      unfold St.ahead
      repeat (first | rw [if_pos (by omega)] | rw [if_neg (by omega)])
theorem c_between {pre post : pW} {m : Nat} (hm : pre.length = m) (S : St) {a b : Nat} (ha : a < 40) (hb : b < 40) {p : Nat} (hp : p < 40) (h : S.inB) : pRun 81 [.ref (m + 1), .int (iI (a : Int)), .int (iI (b : Int)), .int (iI (p : Int))] (pre ++ (mB m S ++ post)) (some (.int (bI (decide (S.betw a b p))))) (pre ++ (mB m S ++ post)) := by
  refine qx_run ?_
  refine pc_run (lv := [(0, .ref (m + 1)), (1, .int (iI (a : Int))), (2, .int (iI (b : Int))), (3, .int (iI (p : Int)))]) rfl ?_
  refine pe_go (pc := 0) rfl (s_aload_n rfl) ?_
  refine pe_go (pc := 1) rfl (s_iload_n rfl) ?_
  refine pe_go (pc := 2) rfl (s_iload_n rfl) ?_
  refine pe_go (pc := 3) rfl (s_iload_n rfl) ?_
  refine pe_call rfl (s_invV rfl (gA hm (mB_1 _ _ _)) rfl rfl) (c_side3 hm S ha hb hp) ?_
  by_cases c1 : (S.sd3 a b p) = 0
  · skip
    refine pe_go rfl (s_if_eq_t (by have := S.sd3_b h ha hb hp; exact ⟨by omega, by omega⟩) c1) ?_
    refine pe_go (pc := 12) rfl (s_aload_n rfl) ?_
    refine pe_go (pc := 13) rfl (s_getf (v := .ref (m + 2)) (gA hm (mB_1 _ _ _)) rfl) ?_
    refine pe_go (pc := 16) rfl (s_iload_n rfl) ?_
    refine pe_go (pc := 17) rfl (s_iald (n := 40) (f := S.xs) (v := S.xs a) (gA hm (mB_xs _ _ _)) (k := a) (by omega) (by omega) (by decide) rfl) ?_
    refine pe_go (pc := 18) rfl (s_aload_n rfl) ?_
    refine pe_go (pc := 19) rfl (s_getf (v := .ref (m + 2)) (gA hm (mB_1 _ _ _)) rfl) ?_
    refine pe_go (pc := 22) rfl (s_iload_n rfl) ?_
    refine pe_go (pc := 23) rfl (s_iald (n := 40) (f := S.xs) (v := S.xs p) (gA hm (mB_xs _ _ _)) (k := p) (by omega) (by omega) (by decide) rfl) ?_
    refine pe_go (pc := 24) rfl s_isub ?_
    refine pe_go (pc := 25) rfl (s_aload_n rfl) ?_
    refine pe_go (pc := 26) rfl (s_getf (v := .ref (m + 2)) (gA hm (mB_1 _ _ _)) rfl) ?_
    refine pe_go (pc := 29) rfl (s_iload_n rfl) ?_
    refine pe_go (pc := 30) rfl (s_iald (n := 40) (f := S.xs) (v := S.xs b) (gA hm (mB_xs _ _ _)) (k := b) (by omega) (by omega) (by decide) rfl) ?_
    refine pe_go (pc := 31) rfl (s_aload_n rfl) ?_
    refine pe_go (pc := 32) rfl (s_getf (v := .ref (m + 2)) (gA hm (mB_1 _ _ _)) rfl) ?_
    refine pe_go (pc := 35) rfl (s_iload_n rfl) ?_
    refine pe_go (pc := 36) rfl (s_iald (n := 40) (f := S.xs) (v := S.xs p) (gA hm (mB_xs _ _ _)) (k := p) (by omega) (by omega) (by decide) rfl) ?_
    refine pe_go (pc := 37) rfl s_isub ?_
    refine pe_go (pc := 38) rfl s_imul ?_
    refine pe_go (pc := 39) rfl (s_aload_n rfl) ?_
    refine pe_go (pc := 40) rfl (s_getf (v := .ref (m + 3)) (gA hm (mB_1 _ _ _)) rfl) ?_
    refine pe_go (pc := 43) rfl (s_iload_n rfl) ?_
    refine pe_go (pc := 44) rfl (s_iald (n := 40) (f := S.ys) (v := S.ys a) (gA hm (mB_ys _ _ _)) (k := a) (by omega) (by omega) (by decide) rfl) ?_
    refine pe_go (pc := 45) rfl (s_aload_n rfl) ?_
    refine pe_go (pc := 46) rfl (s_getf (v := .ref (m + 3)) (gA hm (mB_1 _ _ _)) rfl) ?_
    refine pe_go (pc := 49) rfl (s_iload_n rfl) ?_
    refine pe_go (pc := 50) rfl (s_iald (n := 40) (f := S.ys) (v := S.ys p) (gA hm (mB_ys _ _ _)) (k := p) (by omega) (by omega) (by decide) rfl) ?_
    refine pe_go (pc := 51) rfl s_isub ?_
    refine pe_go (pc := 52) rfl (s_aload_n rfl) ?_
    refine pe_go (pc := 53) rfl (s_getf (v := .ref (m + 3)) (gA hm (mB_1 _ _ _)) rfl) ?_
    refine pe_go (pc := 56) rfl (s_iload_n rfl) ?_
    refine pe_go (pc := 57) rfl (s_iald (n := 40) (f := S.ys) (v := S.ys b) (gA hm (mB_ys _ _ _)) (k := b) (by omega) (by omega) (by decide) rfl) ?_
    refine pe_go (pc := 58) rfl (s_aload_n rfl) ?_
    refine pe_go (pc := 59) rfl (s_getf (v := .ref (m + 3)) (gA hm (mB_1 _ _ _)) rfl) ?_
    refine pe_go (pc := 62) rfl (s_iload_n rfl) ?_
    refine pe_go (pc := 63) rfl (s_iald (n := 40) (f := S.ys) (v := S.ys p) (gA hm (mB_ys _ _ _)) (k := p) (by omega) (by omega) (by decide) rfl) ?_
    refine pe_go (pc := 64) rfl s_isub ?_
    refine pe_go (pc := 65) rfl s_imul ?_
    refine pe_go (pc := 66) rfl s_iadd ?_
    refine pe_go (pc := 67) rfl (s_istore (lv' := [(4, .int (iI ((((S.xs a) - (S.xs p)) * ((S.xs b) - (S.xs p))) + (((S.ys a) - (S.ys p)) * ((S.ys b) - (S.ys p)))))), (0, .ref (m + 1)), (1, .int (iI (a : Int))), (2, .int (iI (b : Int))), (3, .int (iI (p : Int)))]) rfl) ?_
    refine pe_go (pc := 69) rfl (s_iload rfl) ?_
    by_cases c2 : 0 ≤ ((((S.xs a) - (S.xs p)) * ((S.xs b) - (S.xs p))) + (((S.ys a) - (S.ys p)) * ((S.ys b) - (S.ys p))))
    · skip
      refine pe_go rfl (s_if_ge_t (by have := S.dot_b h ha hb hp; unfold St.dot at this; exact ⟨by omega, by omega⟩) c2) ?_
      refine pe_go (pc := 78) rfl (s_iconst (z := 0) rfl) ?_
      exact pe_ret rfl s_ret0 ⟨by rw [decide_eq_false (show ¬ (S.betw a b p) from (by rintro ⟨h1, h2⟩; unfold St.dot at h2; omega))], rfl⟩
    · skip
      refine pe_go rfl (s_if_ge_f (by have := S.dot_b h ha hb hp; unfold St.dot at this; exact ⟨by omega, by omega⟩) c2) ?_
      refine pe_go (pc := 74) rfl (s_iconst (z := 1) rfl) ?_
      refine pe_go (pc := 75) rfl s_goto ?_
      exact pe_ret rfl s_ret1 ⟨by rw [decide_eq_true (show S.betw a b p from (by refine ⟨by omega, ?_⟩; unfold St.dot; omega))], rfl⟩
  · skip
    refine pe_go rfl (s_if_eq_f (by have := S.sd3_b h ha hb hp; exact ⟨by omega, by omega⟩) c1) ?_
    refine pe_go (pc := 10) rfl (s_iconst (z := 0) rfl) ?_
    exact pe_ret rfl s_ret0 ⟨by rw [decide_eq_false (show ¬ (S.betw a b p) from (by rintro ⟨h1, h2⟩; unfold St.dot at h2; omega))], rfl⟩
theorem c_cut {pre post : pW} {m : Nat} (hm : pre.length = m) (S : St) {a b : Nat} (ha : a < 40) (hb : b < 40) {x y X Y : Int} (hq : inSq x y) (hQ : inSq X Y) (h : S.inB) : pRun 82 [.ref (m + 1), .int (iI (a : Int)), .int (iI (b : Int)), .int (iI x), .int (iI y), .int (iI X), .int (iI Y)] (pre ++ (mB m S ++ post)) (some (.int (bI (decide (S.cut a b x y X Y))))) (pre ++ (mB m S ++ post)) := by
  refine qx_run ?_
  refine pc_run (lv := [(0, .ref (m + 1)), (1, .int (iI (a : Int))), (2, .int (iI (b : Int))), (3, .int (iI x)), (4, .int (iI y)), (5, .int (iI X)), (6, .int (iI Y))]) rfl ?_
  refine pe_go (pc := 0) rfl (s_aload_n rfl) ?_
  refine pe_go (pc := 1) rfl (s_iload_n rfl) ?_
  refine pe_go (pc := 2) rfl (s_iload_n rfl) ?_
  refine pe_go (pc := 3) rfl (s_iload_n rfl) ?_
  refine pe_go (pc := 4) rfl (s_iload rfl) ?_
  refine pe_call rfl (s_invV rfl (gA hm (mB_1 _ _ _)) rfl rfl) (c_side hm S ha hb) ?_
  refine pe_go (pc := 9) rfl (s_aload_n rfl) ?_
  refine pe_go (pc := 10) rfl (s_iload_n rfl) ?_
  refine pe_go (pc := 11) rfl (s_iload_n rfl) ?_
  refine pe_go (pc := 12) rfl (s_iload rfl) ?_
  refine pe_go (pc := 14) rfl (s_iload rfl) ?_
  refine pe_call rfl (s_invV rfl (gA hm (mB_1 _ _ _)) rfl rfl) (c_side hm S ha hb) ?_
  refine pe_call rfl (s_invN rfl rfl rfl) (c_opp (by have := S.sd_b h ha hb hq; have := S.sd_b h ha hb hQ; exact ⟨by omega, by omega⟩) (by have := S.sd_b h ha hb hq; have := S.sd_b h ha hb hQ; exact ⟨by omega, by omega⟩)) ?_
  by_cases b1 : opp (S.sd a b x y) (S.sd a b X Y)
  · skip
    refine pe_go rfl (s_ifne_true (decide_eq_true b1)) ?_
    refine pe_go (pc := 27) rfl (s_iload_n rfl) ?_
    refine pe_go (pc := 28) rfl (s_iload rfl) ?_
    refine pe_go (pc := 30) rfl (s_iload rfl) ?_
    refine pe_go (pc := 32) rfl (s_iload rfl) ?_
    refine pe_go (pc := 34) rfl (s_aload_n rfl) ?_
    refine pe_go (pc := 35) rfl (s_getf (v := .ref (m + 2)) (gA hm (mB_1 _ _ _)) rfl) ?_
    refine pe_go (pc := 38) rfl (s_iload_n rfl) ?_
    refine pe_go (pc := 39) rfl (s_iald (n := 40) (f := S.xs) (v := S.xs a) (gA hm (mB_xs _ _ _)) (k := a) (by omega) (by omega) (by decide) rfl) ?_
    refine pe_go (pc := 40) rfl (s_aload_n rfl) ?_
    refine pe_go (pc := 41) rfl (s_getf (v := .ref (m + 3)) (gA hm (mB_1 _ _ _)) rfl) ?_
    refine pe_go (pc := 44) rfl (s_iload_n rfl) ?_
    refine pe_go (pc := 45) rfl (s_iald (n := 40) (f := S.ys) (v := S.ys a) (gA hm (mB_ys _ _ _)) (k := a) (by omega) (by omega) (by decide) rfl) ?_
    refine pe_call rfl (s_invN rfl rfl rfl) (c_turn) ?_
    refine pe_go (pc := 49) rfl (s_iload_n rfl) ?_
    refine pe_go (pc := 50) rfl (s_iload rfl) ?_
    refine pe_go (pc := 52) rfl (s_iload rfl) ?_
    refine pe_go (pc := 54) rfl (s_iload rfl) ?_
    refine pe_go (pc := 56) rfl (s_aload_n rfl) ?_
    refine pe_go (pc := 57) rfl (s_getf (v := .ref (m + 2)) (gA hm (mB_1 _ _ _)) rfl) ?_
    refine pe_go (pc := 60) rfl (s_iload_n rfl) ?_
    refine pe_go (pc := 61) rfl (s_iald (n := 40) (f := S.xs) (v := S.xs b) (gA hm (mB_xs _ _ _)) (k := b) (by omega) (by omega) (by decide) rfl) ?_
    refine pe_go (pc := 62) rfl (s_aload_n rfl) ?_
    refine pe_go (pc := 63) rfl (s_getf (v := .ref (m + 3)) (gA hm (mB_1 _ _ _)) rfl) ?_
    refine pe_go (pc := 66) rfl (s_iload_n rfl) ?_
    refine pe_go (pc := 67) rfl (s_iald (n := 40) (f := S.ys) (v := S.ys b) (gA hm (mB_ys _ _ _)) (k := b) (by omega) (by omega) (by decide) rfl) ?_
    refine pe_call rfl (s_invN rfl rfl rfl) (c_turn) ?_
    refine pe_call rfl (s_invN rfl rfl rfl) (c_opp (by have := tn6_b hq hQ (h a ha); have := tn6_b hq hQ (h b hb); exact ⟨by omega, by omega⟩) (by have := tn6_b hq hQ (h a ha); have := tn6_b hq hQ (h b hb); exact ⟨by omega, by omega⟩)) ?_
    refine pe_ret rfl s_retb ⟨?_, rfl⟩
    have e9 : decide (S.cut a b x y X Y) = decide (opp (tn6 x y X Y (S.xs a) (S.ys a)) (tn6 x y X Y (S.xs b) (S.ys b))) := decide_eq_decide.mpr ⟨fun z => z.2, fun z => ⟨by assumption, z⟩⟩
    rw [e9]
  · skip
    refine pe_go rfl (s_ifne_false (decide_eq_false b1)) ?_
    refine pe_go (pc := 25) rfl (s_iconst (z := 0) rfl) ?_
    exact pe_ret rfl s_ret0 ⟨by rw [decide_eq_false (fun z => absurd z.1 (by assumption))], rfl⟩
theorem c_cutBy {pre post : pW} {m : Nat} (hm : pre.length = m) (S : St) {a b : Nat} (ha : a < 40) (hb : b < 40) {c d : Nat} (hc : c < 40) (hd : d < 40) (h : S.inB) : pRun 83 [.ref (m + 1), .int (iI (a : Int)), .int (iI (b : Int)), .int (iI (c : Int)), .int (iI (d : Int))] (pre ++ (mB m S ++ post)) (some (.int (bI (decide (S.cut a b (S.xs c) (S.ys c) (S.xs d) (S.ys d)))))) (pre ++ (mB m S ++ post)) := by
  refine qx_run ?_
  refine pc_run (lv := [(0, .ref (m + 1)), (1, .int (iI (a : Int))), (2, .int (iI (b : Int))), (3, .int (iI (c : Int))), (4, .int (iI (d : Int)))]) rfl ?_
  refine pe_go (pc := 0) rfl (s_aload_n rfl) ?_
  refine pe_go (pc := 1) rfl (s_iload_n rfl) ?_
  refine pe_go (pc := 2) rfl (s_iload_n rfl) ?_
  refine pe_go (pc := 3) rfl (s_aload_n rfl) ?_
  refine pe_go (pc := 4) rfl (s_getf (v := .ref (m + 2)) (gA hm (mB_1 _ _ _)) rfl) ?_
  refine pe_go (pc := 7) rfl (s_iload_n rfl) ?_
  refine pe_go (pc := 8) rfl (s_iald (n := 40) (f := S.xs) (v := S.xs c) (gA hm (mB_xs _ _ _)) (k := c) (by omega) (by omega) (by decide) rfl) ?_
  refine pe_go (pc := 9) rfl (s_aload_n rfl) ?_
  refine pe_go (pc := 10) rfl (s_getf (v := .ref (m + 3)) (gA hm (mB_1 _ _ _)) rfl) ?_
  refine pe_go (pc := 13) rfl (s_iload_n rfl) ?_
  refine pe_go (pc := 14) rfl (s_iald (n := 40) (f := S.ys) (v := S.ys c) (gA hm (mB_ys _ _ _)) (k := c) (by omega) (by omega) (by decide) rfl) ?_
  refine pe_go (pc := 15) rfl (s_aload_n rfl) ?_
  refine pe_go (pc := 16) rfl (s_getf (v := .ref (m + 2)) (gA hm (mB_1 _ _ _)) rfl) ?_
  refine pe_go (pc := 19) rfl (s_iload rfl) ?_
  refine pe_go (pc := 21) rfl (s_iald (n := 40) (f := S.xs) (v := S.xs d) (gA hm (mB_xs _ _ _)) (k := d) (by omega) (by omega) (by decide) rfl) ?_
  refine pe_go (pc := 22) rfl (s_aload_n rfl) ?_
  refine pe_go (pc := 23) rfl (s_getf (v := .ref (m + 3)) (gA hm (mB_1 _ _ _)) rfl) ?_
  refine pe_go (pc := 26) rfl (s_iload rfl) ?_
  refine pe_go (pc := 28) rfl (s_iald (n := 40) (f := S.ys) (v := S.ys d) (gA hm (mB_ys _ _ _)) (k := d) (by omega) (by omega) (by decide) rfl) ?_
  refine pe_call rfl (s_invV rfl (gA hm (mB_1 _ _ _)) rfl rfl) (c_cut hm S ha hb (h c hc) (h d hd) h) ?_
  exact pe_ret rfl s_retb ⟨rfl, rfl⟩
