/-! THE CLASS: edges settled. Rows laid by program (wip/p63/wk.py, mk39.py). -/
theorem c_canFree {pre post : pW} {m : Nat} (hm : pre.length = m) (S : St) {a b : Nat} (ha : a < 40) (hb : b < 40) (hA : S.okA) : pRun 13 [.ref m, .int (iI (a : Int)), .int (iI (b : Int))] (pre ++ (mB m S ++ post)) (some (.int (bI (decide ((S.has a ∧ S.has b ∧ S.bound a b) ∧ (S.ap (a * 40 + b) ≠ -1 ∧ S.ap (b * 40 + a) ≠ -1)))))) (pre ++ (mB m S ++ post)) := by
  refine qx_run ?_
  refine pc_run (lv := [(0, .ref m), (1, .int (iI (a : Int))), (2, .int (iI (b : Int)))]) rfl ?_
  have h1 := hA (a * 40 + b) (by omega)
  have h2 := hA (b * 40 + a) (by omega)
  refine pe_go (pc := 0) rfl (s_aload_n rfl) ?_
  refine pe_go (pc := 1) rfl (s_getf (v := .ref (m + 1)) (gA0 hm (mB_0 _ _ _)) rfl) ?_
  refine pe_go (pc := 4) rfl (s_iload_n rfl) ?_
  refine pe_call rfl (s_invV rfl (gA hm (mB_1 _ _ _)) rfl rfl) (c_has hm S ha) ?_
  by_cases b1 : S.has a
  · skip
    refine pe_go rfl (s_ifeq_true (decide_eq_true b1)) ?_
    refine pe_go (pc := 11) rfl (s_aload_n rfl) ?_
    refine pe_go (pc := 12) rfl (s_getf (v := .ref (m + 1)) (gA0 hm (mB_0 _ _ _)) rfl) ?_
    refine pe_go (pc := 15) rfl (s_iload_n rfl) ?_
    refine pe_call rfl (s_invV rfl (gA hm (mB_1 _ _ _)) rfl rfl) (c_has hm S hb) ?_
    by_cases b2 : S.has b
    · skip
      refine pe_go rfl (s_ifeq_true (decide_eq_true b2)) ?_
      refine pe_go (pc := 22) rfl (s_aload_n rfl) ?_
      refine pe_go (pc := 23) rfl (s_getf (v := .ref (m + 1)) (gA0 hm (mB_0 _ _ _)) rfl) ?_
      refine pe_go (pc := 26) rfl (s_iload_n rfl) ?_
      refine pe_go (pc := 27) rfl (s_iload_n rfl) ?_
      refine pe_call rfl (s_invV rfl (gA hm (mB_1 _ _ _)) rfl rfl) (c_isBound hm S ha hb) ?_
      by_cases b3 : S.bound a b
      · skip
        refine pe_go rfl (s_ifne_true (decide_eq_true b3)) ?_
        refine pe_go (pc := 36) rfl (s_aload_n rfl) ?_
        refine pe_go (pc := 37) rfl (s_iload_n rfl) ?_
        refine pe_go (pc := 38) rfl (s_iload_n rfl) ?_
        refine pe_call rfl (s_invV rfl (gA0 hm (mB_0 _ _ _)) rfl rfl) (c_isInner hm S ha hb ⟨by omega, by omega⟩ ⟨by omega, by omega⟩) ?_
        refine pe_ret rfl s_retb ⟨?_, rfl⟩
        have e9 : decide ((S.has a ∧ S.has b ∧ S.bound a b) ∧ (S.ap (a * 40 + b) ≠ -1 ∧ S.ap (b * 40 + a) ≠ -1)) = decide (S.ap (a * 40 + b) ≠ -1 ∧ S.ap (b * 40 + a) ≠ -1) := decide_eq_decide.mpr ⟨fun z => z.2, fun z => ⟨⟨by assumption, by assumption, by assumption⟩, z⟩⟩
        rw [e9]
      · skip
        refine pe_go rfl (s_ifne_false (decide_eq_false b3)) ?_
        refine pe_go (pc := 34) rfl (s_iconst (z := 0) rfl) ?_
        exact pe_ret rfl s_ret0 ⟨by rw [decide_eq_false (by rintro ⟨⟨z1, z2, z3⟩, -⟩; first | exact absurd z1 (by assumption) | exact absurd z2 (by assumption) | exact absurd z3 (by assumption))], rfl⟩
    · skip
      refine pe_go rfl (s_ifeq_false (decide_eq_false b2)) ?_
      refine pe_go (pc := 34) rfl (s_iconst (z := 0) rfl) ?_
      exact pe_ret rfl s_ret0 ⟨by rw [decide_eq_false (by rintro ⟨⟨z1, z2, z3⟩, -⟩; first | exact absurd z1 (by assumption) | exact absurd z2 (by assumption) | exact absurd z3 (by assumption))], rfl⟩
  · skip
    refine pe_go rfl (s_ifeq_false (decide_eq_false b1)) ?_
    refine pe_go (pc := 34) rfl (s_iconst (z := 0) rfl) ?_
    exact pe_ret rfl s_ret0 ⟨by rw [decide_eq_false (by rintro ⟨⟨z1, z2, z3⟩, -⟩; first | exact absurd z1 (by assumption) | exact absurd z2 (by assumption) | exact absurd z3 (by assumption))], rfl⟩
/-- what a walk needs of the numbers of a mesh -/
def St.okU (S : St) : Prop := ∀ j : Nat, j < 800 → 0 ≤ S.qu j ∧ S.qu j < 1600
def St.wI (S : St) : Prop := S.okA ∧ okQ S ∧ S.inB ∧ S.liB ∧ S.okU ∧ (S.okC ∧ S.okN)
theorem St.wI.A {S : St} (h : S.wI) : S.okA := h.1
theorem St.wI.Q {S : St} (h : S.wI) : okQ S := h.2.1
theorem St.wI.B {S : St} (h : S.wI) : S.inB := h.2.2.1
theorem St.wI.I {S : St} (h : S.wI) : S.liB := h.2.2.2.1
theorem St.wI.U {S : St} (h : S.wI) : S.okU := h.2.2.2.2.1
theorem St.wI.CN {S : St} (h : S.wI) : S.okC ∧ S.okN := h.2.2.2.2.2
theorem uZ_b {f : Nat → Int} {n k : Nat} {v lo hi : Int} (h : ∀ j : Nat, j < n → lo ≤ f j ∧ f j < hi) (hv : lo ≤ v ∧ v < hi) : ∀ j : Nat, j < n → lo ≤ uZ f k v j ∧ uZ f k v j < hi := fun j hj => by
  unfold uZ
  split
  · exact hv
  · exact h j hj
theorem ap3_b {f : Nat → Int} {a b c n : Nat} {x y z lo hi : Int} (h : ∀ j : Nat, j < n → lo ≤ f j ∧ f j < hi) (hx : lo ≤ x ∧ x < hi) (hy : lo ≤ y ∧ y < hi) (hz : lo ≤ z ∧ z < hi) : ∀ j : Nat, j < n → lo ≤ ap3 f a b c x y z j ∧ ap3 f a b c x y z j < hi := uZ_b (uZ_b (uZ_b h hx) hy) hz
theorem St.aw0_okU {S : St} {a b : Nat} (ha : a < 40) (hb : b < 40) (h : S.okU) : (S.aw0 a b).okU := by
  unfold St.aw0
  split
  · exact h
  · exact uZ_b (n := 800) h (by omega)
theorem St.aw_okU {S : St} {a b : Nat} (ha : a < 40) (hb : b < 40) (h : S.okU) : (S.aw a b).okU := by
  unfold St.aw
  split
  · exact St.aw0_okU ha hb h
  · exact St.aw0_okU hb ha h
theorem St.put_okU {S : St} {a b c : Nat} (ha : a < 40) (hb : b < 40) (hc : c < 40) (h : S.okU) : (S.put a b c).okU := St.aw_okU hc ha (St.aw_okU hb hc (St.aw_okU ha hb h))
theorem St.put_wI {S : St} {a b c : Nat} (ha : a < 40) (hb : b < 40) (hc : c < 40) (h : S.wI) : (S.put a b c).wI := by
  obtain ⟨h1, h2, h3, h4, h5⟩ := h
  refine ⟨?_, St.put_qn S a b c h2, ?_, ?_, St.put_okU ha hb hc h5.1, by unfold St.okC; rw [St.put_co]; exact h5.2.1, by unfold St.okN; rw [St.put_en]; exact h5.2.2⟩
  · unfold St.okA
    rw [St.put_ap]
    exact ap3_b h1 (by omega) (by omega) (by omega)
  · unfold St.inB
    rw [St.put_xs, St.put_ys]
    exact h3
  · unfold St.liB
    rw [St.put_li]
    exact h4
theorem St.aw_wI {S : St} {a b : Nat} (ha : a < 40) (hb : b < 40) (h : S.wI) : (S.aw a b).wI := by
  obtain ⟨h1, h2, h3, h4, h5⟩ := h
  refine ⟨?_, St.aw_qn S a b h2, ?_, ?_, St.aw_okU ha hb h5.1, by unfold St.okC; rw [St.aw_co]; exact h5.2.1, by unfold St.okN; rw [St.aw_en]; exact h5.2.2⟩
  · unfold St.okA
    rw [St.aw_ap]
    exact h1
  · unfold St.inB
    rw [St.aw_xs, St.aw_ys]
    exact h3
  · unfold St.liB
    rw [St.aw_li]
    exact h4
theorem St.flip_wI {S : St} {a b c d : Nat} (ha : a < 40) (hb : b < 40) (hc : c < 40) (hd : d < 40) (h : S.wI) : (S.flip a b c d).wI := by
  obtain ⟨h1, h2, h3, h4, h5⟩ := h
  refine St.put_wI hd hb hc (St.put_wI ha hd hc ⟨?_, h2, h3, h4, h5⟩)
  exact uZ_b (uZ_b h1 (by omega)) (by omega)
/-- the last edge of those that wait, taken off -/
def St.popW (S : St) (a b : Nat) : St := sM S.xs S.ys S.hs S.fx S.hx S.hy S.th S.hn S.g S.ap S.ow S.co S.en S.ne S.rd S.tn S.ec S.li (vp_updL S.wa a (bClr (S.wa a) b)) S.qu (S.qn - 1)
theorem St.popW_wI {S : St} {a b : Nat} (h : S.wI) (hq : 0 < S.qn) : (S.popW a b).wI := by
  obtain ⟨h1, h2, h3, h4, h5⟩ := h
  refine ⟨h1, ?_, h3, h4, h5⟩
  show 0 ≤ S.qn - 1 ∧ S.qn - 1 ≤ 800
  omega
/-- whether the edge a b is to be flipped, with c and d behind it -/
abbrev St.toFlip (S : St) (a b : Nat) : Prop := (S.ap (a * 40 + b) ≠ -1 ∧ S.ap (b * 40 + a) ≠ -1) ∧ ¬ S.bound a b ∧ ¬ S.okE a b (S.ap (a * 40 + b)).toNat (S.ap (b * 40 + a)).toNat
def St.fix1 (S : St) (a b : Nat) : St := if S.toFlip a b then S.flip a b (S.ap (a * 40 + b)).toNat (S.ap (b * 40 + a)).toNat else S
def St.rnd1 (S : St) : St := (S.popW ((S.qu (S.qn - 1).toNat).toNat / 40) ((S.qu (S.qn - 1).toNat).toNat % 40)).fix1 ((S.qu (S.qn - 1).toNat).toNat / 40) ((S.qu (S.qn - 1).toNat).toNat % 40)
def St.stl : Nat → St → St
  | 0, S => S
  | n + 1, S => if 0 < S.qn then St.stl n S.rnd1 else S
theorem St.fix1_wI {S : St} {a b : Nat} (ha : a < 40) (hb : b < 40) (h : S.wI) : (S.fix1 a b).wI := by
  unfold St.fix1
  split
  · have h1 := h.A (a * 40 + b) (by omega)
    have h2 := h.A (b * 40 + a) (by omega)
    exact St.flip_wI ha hb (by omega) (by omega) h
  · exact h
theorem St.rnd1_wI {S : St} (h : S.wI) (hq : 0 < S.qn) : S.rnd1.wI := by
  have hQ := h.Q
  have hU := h.U (S.qn - 1).toNat (by omega)
  exact St.fix1_wI (by omega) (by omega) (St.popW_wI h hq)
theorem St.stl_wI : ∀ (n : Nat) {S : St}, S.wI → (St.stl n S).wI := by
  intro n
  induction n with
  | zero => intro S h; exact h
  | succ n ih =>
    intro S h
    unfold St.stl
    split
    · exact ih (St.rnd1_wI h (by assumption))
    · exact h
theorem St.stl_go {S : St} {n : Nat} (hz : 0 < S.qn) : St.stl (n + 1) S = St.stl n S.rnd1 := if_pos hz
theorem St.stl_end {S : St} {n : Nat} (hz : ¬ 0 < S.qn) : St.stl (n + 1) S = S := if_neg hz
theorem St.fix1_no {S : St} {a b : Nat} (hz : ¬ S.toFlip a b) : S.fix1 a b = S := if_neg hz
theorem St.fix1_yes {S : St} {a b : Nat} (hz : S.toFlip a b) : S.fix1 a b = S.flip a b (S.ap (a * 40 + b)).toNat (S.ap (b * 40 + a)).toNat := if_pos hz
theorem l_settle {pre post : pW} {m : Nat} (hm : pre.length = m) : ∀ (n k : Nat) (S : St), k + n = 1000000 → S.wI → (St.stl n S).okL → qE 19 (6, [(1, .int (iI (k : Int))), (0, .ref m)], [], (pre ++ (mB m S ++ post))) (listW pre post m (St.stl n S)) := by
  intro n
  induction n with
  | zero =>
    intro k S hk h hL
    have hL : S.okL := hL
    refine pe_go (pc := 6) rfl (s_iload_n rfl) ?_
    refine pe_go (pc := 7) rfl (s_ldc (z := 1000000) rfl) ?_
    refine pe_go rfl (s_icmp_ge_t ⟨by omega, by omega⟩ ⟨by decide, by decide⟩ (by omega)) ?_
    refine pe_go (pc := 113) rfl (s_aload_n rfl) ?_
    refine pe_callE rfl (s_invV rfl (gA0 hm (mB_0 _ _ _)) rfl rfl) (c_list hm S hL h.CN) ?_
    rintro _ _ hW1
    obtain ⟨rfl, hW2⟩ := hW1
    exact pe_ret rfl s_retv ⟨rfl, hW2⟩
  | succ n ih =>
    intro k S hk h hL
    have hQ := h.Q
    by_cases hz : 0 < S.qn
    · have hU := h.U (S.qn - 1).toNat (by omega)
      rw [St.stl_go hz] at hL ⊢
      obtain ⟨a, b, ha, hb, hab⟩ : ∃ a b : Nat, a < 40 ∧ b < 40 ∧ S.qu (S.qn - 1).toNat = ((a * 40 + b : Nat) : Int) := ⟨(S.qu (S.qn - 1).toNat).toNat / 40, (S.qu (S.qn - 1).toNat).toNat % 40, by omega, by omega, by omega⟩
      have e1 : (S.qu (S.qn - 1).toNat).toNat / 40 = a := by omega
      have e2 : (S.qu (S.qn - 1).toNat).toNat % 40 = b := by omega
      have er : S.rnd1 = (S.popW a b).fix1 a b := by unfold St.rnd1; rw [e1, e2]
      have hP : (S.popW a b).wI := St.popW_wI h hz
      have hap1 : -1 ≤ (S.popW a b).ap (a * 40 + b) ∧ (S.popW a b).ap (a * 40 + b) < 40 := hP.A _ (by omega)
      have hap2 : -1 ≤ (S.popW a b).ap (b * 40 + a) ∧ (S.popW a b).ap (b * 40 + a) < 40 := hP.A _ (by omega)
      have hap3 : -1 ≤ S.ap (a * 40 + b) ∧ S.ap (a * 40 + b) < 40 := h.A _ (by omega)
      have hap4 : -1 ≤ S.ap (b * 40 + a) ∧ S.ap (b * 40 + a) < 40 := h.A _ (by omega)
      have hpa1 : (S.popW a b).ap (a * 40 + b) = S.ap (a * 40 + b) := rfl
      have hpa2 : (S.popW a b).ap (b * 40 + a) = S.ap (b * 40 + a) := rfl
      have hin := St.rnd1_wI h hz
      rw [er] at hL hin ⊢
      rw [mB_eta m S]
      refine pe_go (pc := 6) rfl (s_iload_n rfl) ?_
      refine pe_go (pc := 7) rfl (s_ldc (z := 1000000) rfl) ?_
      refine pe_go rfl (s_icmp_ge_f ⟨by omega, by omega⟩ ⟨by decide, by decide⟩ (by omega)) ?_
      refine pe_go (pc := 12) rfl (s_aload_n rfl) ?_
      refine pe_go (pc := 13) rfl (s_getf (v := .int (iI S.qn)) (gA0 hm mM_0) rfl) ?_
      refine pe_go rfl (s_if_le_f ⟨by omega, by omega⟩ (by omega)) ?_
      refine pe_go (pc := 19) rfl (s_aload_n rfl) ?_
      refine pe_go (pc := 20) rfl (s_dup rfl) ?_
      refine pe_go (pc := 21) rfl (s_getf (v := .int (iI S.qn)) (gA0 hm mM_0) rfl) ?_
      refine pe_go (pc := 24) rfl (s_iconst (z := 1) rfl) ?_
      refine pe_go (pc := 25) rfl s_isub ?_
      refine pe_go (pc := 26) rfl (s_putf (w' := pre ++ (mB m (sM S.xs S.ys S.hs S.fx S.hx S.hy S.th S.hn S.g S.ap S.ow S.co S.en S.ne S.rd S.tn S.ec S.li S.wa S.qu (S.qn - 1)) ++ post)) (gA0 hm mM_0) (Nat.le_of_ble_eq_true rfl) rfl (gS0 hm mM_s_qn)) ?_
      refine pe_go (pc := 29) rfl (s_aload_n rfl) ?_
      refine pe_go (pc := 30) rfl (s_getf (v := .ref (m + 16)) (gA0 hm mM_0) rfl) ?_
      refine pe_go (pc := 33) rfl (s_aload_n rfl) ?_
      refine pe_go (pc := 34) rfl (s_getf (v := .int (iI (S.qn - 1))) (gA0 hm mM_0) rfl) ?_
      refine pe_go (pc := 37) rfl (s_iald (n := 800) (f := S.qu) (v := ((a * 40 + b : Nat) : Int)) (gA hm mM_qu) (k := (S.qn - 1).toNat) (by omega) (by omega) (by decide) hab) ?_
      refine pe_go (pc := 38) rfl (s_bipush (z := 40) rfl) ?_
      refine pe_go (pc := 40) rfl (s_idiv ⟨by omega, by omega⟩ ⟨by decide, by decide⟩ (by decide) (by omega) (show Int.tdiv _ _ = (a : Int) from by rw [Int.tdiv_eq_ediv_of_nonneg (by omega)]; omega)) ?_
      refine pe_go (pc := 41) rfl (s_istore_n (lv' := [(2, .int (iI (a : Int))), (1, .int (iI (k : Int))), (0, .ref m)]) rfl) ?_
      refine pe_go (pc := 42) rfl (s_aload_n rfl) ?_
      refine pe_go (pc := 43) rfl (s_getf (v := .ref (m + 16)) (gA0 hm mM_0) rfl) ?_
      refine pe_go (pc := 46) rfl (s_aload_n rfl) ?_
      refine pe_go (pc := 47) rfl (s_getf (v := .int (iI (S.qn - 1))) (gA0 hm mM_0) rfl) ?_
      refine pe_go (pc := 50) rfl (s_iald (n := 800) (f := S.qu) (v := ((a * 40 + b : Nat) : Int)) (gA hm mM_qu) (k := (S.qn - 1).toNat) (by omega) (by omega) (by decide) hab) ?_
      refine pe_go (pc := 51) rfl (s_bipush (z := 40) rfl) ?_
      refine pe_go (pc := 53) rfl (s_irem ⟨by omega, by omega⟩ ⟨by decide, by decide⟩ (by decide) (by omega) (show Int.tmod _ _ = (b : Int) from by rw [Int.tmod_eq_emod_of_nonneg (by omega)]; omega)) ?_
      refine pe_go (pc := 54) rfl (s_istore_n (lv' := [(3, .int (iI (b : Int))), (2, .int (iI (a : Int))), (1, .int (iI (k : Int))), (0, .ref m)]) rfl) ?_
      refine pe_go (pc := 55) rfl (s_aload_n rfl) ?_
      refine pe_go (pc := 56) rfl (s_getf (v := .ref (m + 15)) (gA0 hm mM_0) rfl) ?_
      refine pe_go (pc := 59) rfl (s_iload_n rfl) ?_
      refine pe_go (pc := 60) rfl s_dup2 ?_
      refine pe_go (pc := 61) rfl (s_lald (n := 40) (f := S.wa) (v := S.wa a) (gA hm mM_wa) (k := a) (by omega) (by omega) (by decide) rfl) ?_
      refine pe_go (pc := 62) rfl s_lconst1 ?_
      refine pe_go (pc := 63) rfl (s_iload_n rfl) ?_
      refine pe_go (pc := 64) rfl (s_bit1 (k := b) (by omega) (by omega)) ?_
      refine pe_go (pc := 65) rfl (s_ldc2 (y := -1) rfl) ?_
      refine pe_go (pc := 68) rfl s_bnot ?_
      refine pe_go (pc := 69) rfl s_bclr ?_
      refine pe_go (pc := 70) rfl (s_last (n := 40) (f := S.wa) (w' := pre ++ (mB m (sM S.xs S.ys S.hs S.fx S.hx S.hy S.th S.hn S.g S.ap S.ow S.co S.en S.ne S.rd S.tn S.ec S.li (vp_updL S.wa a (bClr (S.wa a) b)) S.qu (S.qn - 1)) ++ post)) (gA hm mM_wa) (k := a) (by omega) (by omega) (by decide) (gS hm mM_s_wa)) ?_
      refine pe_go (pc := 71) rfl (s_aload_n rfl) ?_
      refine pe_go (pc := 72) rfl (s_iload_n rfl) ?_
      refine pe_go (pc := 73) rfl (s_iload_n rfl) ?_
      refine pe_call rfl (s_invV rfl (gA0 hm mM_0) rfl rfl) (c_isInner hm (S.popW a b) ha hb ⟨by omega, by omega⟩ ⟨by omega, by omega⟩) ?_
      by_cases b1 : (S.popW a b).ap (a * 40 + b) ≠ -1 ∧ (S.popW a b).ap (b * 40 + a) ≠ -1
      · skip
        refine pe_go rfl (s_ifeq_true (decide_eq_true b1)) ?_
        refine pe_go (pc := 80) rfl (s_aload_n rfl) ?_
        refine pe_go (pc := 81) rfl (s_getf (v := .ref (m + 1)) (gA0 hm mM_0) rfl) ?_
        refine pe_go (pc := 84) rfl (s_iload_n rfl) ?_
        refine pe_go (pc := 85) rfl (s_iload_n rfl) ?_
        refine pe_call rfl (s_invV rfl (gA hm mM_1) rfl rfl) (c_isBound hm (S.popW a b) ha hb) ?_
        by_cases b2 : (S.popW a b).bound a b
        · skip
          refine pe_go rfl (s_ifne_true (decide_eq_true b2)) ?_
          refine pe_go (pc := 107) rfl (s_iinc (x := (k : Int)) (y := ((k + 1 : Nat) : Int)) rfl (by omega) (lv' := [(1, .int (iI ((k + 1 : Nat) : Int))), (3, .int (iI (b : Int))), (2, .int (iI (a : Int))), (0, .ref m)]) rfl) ?_
          refine pe_go (pc := 110) rfl s_goto ?_
          refine pe_few (lv := [(1, .int (iI ((k + 1 : Nat) : Int))), (0, .ref m)]) rfl rfl (by intro q hq; simp only [List.mem_cons, List.not_mem_nil, or_false] at hq; rcases hq with rfl | rfl <;> rfl) ?_
          rw [St.fix1_no (show ¬ (S.popW a b).toFlip a b from by rintro ⟨z1, z2, z3⟩; first | exact absurd z1 (by assumption) | exact absurd (by assumption) z2 | exact absurd (by assumption) z3)] at hL hin ⊢
          exact ih (k + 1) _ (by omega) hin hL
        · skip
          refine pe_go rfl (s_ifne_false (decide_eq_false b2)) ?_
          refine pe_go (pc := 92) rfl (s_aload_n rfl) ?_
          refine pe_go (pc := 93) rfl (s_iload_n rfl) ?_
          refine pe_go (pc := 94) rfl (s_iload_n rfl) ?_
          refine pe_call rfl (s_invV rfl (gA0 hm mM_0) rfl rfl) (c_isAllowed hm (S.popW a b) (c := (S.ap (a * 40 + b)).toNat) (d := (S.ap (b * 40 + a)).toNat) ha hb (by omega) (by omega) (show S.ap (a * 40 + b) = _ by omega) (show S.ap (b * 40 + a) = _ by omega) hP.B hP.I) ?_
          by_cases b3 : (S.popW a b).okE a b (S.ap (a * 40 + b)).toNat (S.ap (b * 40 + a)).toNat
          · skip
            refine pe_go rfl (s_ifne_true (decide_eq_true b3)) ?_
            refine pe_go (pc := 107) rfl (s_iinc (x := (k : Int)) (y := ((k + 1 : Nat) : Int)) rfl (by omega) (lv' := [(1, .int (iI ((k + 1 : Nat) : Int))), (3, .int (iI (b : Int))), (2, .int (iI (a : Int))), (0, .ref m)]) rfl) ?_
            refine pe_go (pc := 110) rfl s_goto ?_
            refine pe_few (lv := [(1, .int (iI ((k + 1 : Nat) : Int))), (0, .ref m)]) rfl rfl (by intro q hq; simp only [List.mem_cons, List.not_mem_nil, or_false] at hq; rcases hq with rfl | rfl <;> rfl) ?_
            rw [St.fix1_no (show ¬ (S.popW a b).toFlip a b from by rintro ⟨z1, z2, z3⟩; first | exact absurd z1 (by assumption) | exact absurd (by assumption) z2 | exact absurd (by assumption) z3)] at hL hin ⊢
            exact ih (k + 1) _ (by omega) hin hL
          · skip
            refine pe_go rfl (s_ifne_false (decide_eq_false b3)) ?_
            refine pe_go (pc := 101) rfl (s_aload_n rfl) ?_
            refine pe_go (pc := 102) rfl (s_iload_n rfl) ?_
            refine pe_go (pc := 103) rfl (s_iload_n rfl) ?_
            refine pe_call rfl (s_invV rfl (gA0 hm mM_0) rfl rfl) (c_flip hm (S.popW a b) (c := (S.ap (a * 40 + b)).toNat) (d := (S.ap (b * 40 + a)).toNat) ha hb (by omega) (by omega) (show S.ap (a * 40 + b) = _ by omega) (show S.ap (b * 40 + a) = _ by omega) hP.Q) ?_
            refine pe_go (pc := 107) rfl (s_iinc (x := (k : Int)) (y := ((k + 1 : Nat) : Int)) rfl (by omega) (lv' := [(1, .int (iI ((k + 1 : Nat) : Int))), (3, .int (iI (b : Int))), (2, .int (iI (a : Int))), (0, .ref m)]) rfl) ?_
            refine pe_go (pc := 110) rfl s_goto ?_
            refine pe_few (lv := [(1, .int (iI ((k + 1 : Nat) : Int))), (0, .ref m)]) rfl rfl (by intro q hq; simp only [List.mem_cons, List.not_mem_nil, or_false] at hq; rcases hq with rfl | rfl <;> rfl) ?_
            rw [St.fix1_yes (show (S.popW a b).toFlip a b from ⟨by assumption, by assumption, by assumption⟩)] at hL hin ⊢
            exact ih (k + 1) _ (by omega) hin hL
      · skip
        refine pe_go rfl (s_ifeq_false (decide_eq_false b1)) ?_
        refine pe_go (pc := 107) rfl (s_iinc (x := (k : Int)) (y := ((k + 1 : Nat) : Int)) rfl (by omega) (lv' := [(1, .int (iI ((k + 1 : Nat) : Int))), (3, .int (iI (b : Int))), (2, .int (iI (a : Int))), (0, .ref m)]) rfl) ?_
        refine pe_go (pc := 110) rfl s_goto ?_
        refine pe_few (lv := [(1, .int (iI ((k + 1 : Nat) : Int))), (0, .ref m)]) rfl rfl (by intro q hq; simp only [List.mem_cons, List.not_mem_nil, or_false] at hq; rcases hq with rfl | rfl <;> rfl) ?_
        rw [St.fix1_no (show ¬ (S.popW a b).toFlip a b from by rintro ⟨z1, z2, z3⟩; first | exact absurd z1 (by assumption) | exact absurd (by assumption) z2 | exact absurd (by assumption) z3)] at hL hin ⊢
        exact ih (k + 1) _ (by omega) hin hL
    · rw [St.stl_end hz] at hL ⊢
      refine pe_go (pc := 6) rfl (s_iload_n rfl) ?_
      refine pe_go (pc := 7) rfl (s_ldc (z := 1000000) rfl) ?_
      refine pe_go rfl (s_icmp_ge_f ⟨by omega, by omega⟩ ⟨by decide, by decide⟩ (by omega)) ?_
      refine pe_go (pc := 12) rfl (s_aload_n rfl) ?_
      refine pe_go (pc := 13) rfl (s_getf (v := .int (iI S.qn)) (gA0 hm (mB_0 _ _ _)) rfl) ?_
      refine pe_go rfl (s_if_le_t ⟨by omega, by omega⟩ (by omega)) ?_
      refine pe_go (pc := 113) rfl (s_aload_n rfl) ?_
      refine pe_callE rfl (s_invV rfl (gA0 hm (mB_0 _ _ _)) rfl rfl) (c_list hm S hL h.CN) ?_
      rintro _ _ hW1
      obtain ⟨rfl, hW2⟩ := hW1
      exact pe_ret rfl s_retv ⟨rfl, hW2⟩
