/-! THE CLASS: settled, joined, freed. Rows laid by program (wip/p63/wk.py, mk39b.py). -/
theorem sqr_b {x : Int} (h1 : -1000 ≤ x) (h2 : x ≤ 1000) : 0 ≤ x * x ∧ x * x ≤ 1000000 := by
  have e := mul_b (x := x) (y := x) (a := 1000) (b := 1000) h1 h2 h1 h2
  have : 0 ≤ x * x := by rcases Int.le_total 0 x with g | g; exact Int.mul_nonneg g g; exact Int.mul_nonneg_of_nonpos_of_nonpos g g
  omega
theorem St.u_li_wI {S : St} {li : Nat → Int} (h : S.wI) (hl : ∀ j : Nat, j < 40 → 0 ≤ li j ∧ li j ≤ 8000000) : (S.u_li li).wI := ⟨h.A, h.Q, h.B, hl, h.U, h.CN⟩
theorem St.liR_b {S : St} (h : S.inB) {j : Nat} (hj : j < 40) : 0 ≤ S.liR j ∧ S.liR j ≤ 8000000 := by
  obtain ⟨h1, h2, h3, h4⟩ := h j hj
  have e1 := sqr_b h1 h2
  have e2 := sqr_b h3 h4
  unfold St.liR
  omega
theorem St.liS_b {S : St} (h : S.inB) {a b j : Nat} (ha : a < 40) (hb : b < 40) (hj : j < 40) : 0 ≤ S.liS a b j ∧ S.liS a b j ≤ 8000000 := by
  have := S.sd3_b h ha hb hj
  unfold St.liS zabs
  split <;> omega
/-- settled: lifted anew, edges flipped until none waits, rows made anew -/
def setW (pre post : pW) (m : Nat) (S : St) (r : Option Value) (w' : pW) : Prop := ∃ li : Nat → Int, (∀ j : Nat, j < 40 → li j = S.liR j) ∧ listW pre post m (St.stl 1000000 (S.u_li li)) r w'
def St.setL (S : St) : Prop := ∀ li : Nat → Int, (∀ j : Nat, j < 40 → li j = S.liR j) → (St.stl 1000000 (S.u_li li)).okL
theorem c_settle {pre post : pW} {m : Nat} (hm : pre.length = m) (S : St) (h : S.wI) (hL : S.setL) : qC 19 [.ref m] (pre ++ (mB m S ++ post)) (setW pre post m S) := by
  refine pc_run (lv := [(0, .ref m)]) rfl ?_
  refine pe_go (pc := 0) rfl (s_aload_n rfl) ?_
  refine pe_callE rfl (s_invV rfl (gA0 hm (mB_0 _ _ _)) rfl rfl) (c_liftRound hm S h.B) ?_
  rintro _ _ ⟨rfl, li1, hli1, rfl⟩
  refine pe_go (pc := 4) rfl (s_iconst (z := 0) rfl) ?_
  refine pe_go (pc := 5) rfl (s_istore_n (lv' := [(1, .int (iI 0)), (0, .ref m)]) rfl) ?_
  refine pe_few (lv := [(1, .int (iI ((0 : Nat) : Int))), (0, .ref m)]) rfl rfl (by intro q hq; simp only [List.mem_cons, List.not_mem_nil, or_false] at hq; rcases hq with rfl | rfl <;> rfl) ?_
  refine pe_mono (fun r9 w9 z9 => ⟨li1, hli1, z9⟩) (l_settle hm 1000000 0 (S.u_li li1) rfl (St.u_li_wI h (fun j hj => by rw [hli1 j hj]; exact St.liR_b h.B hj)) (hL li1 hli1))
def St.plc (S : St) (p : Nat) (x y : Int) : St := sM (uZ S.xs p x) (uZ S.ys p y) S.hs S.fx S.hx S.hy (bSet S.th p) S.hn S.g S.ap S.ow S.co S.en S.ne S.rd S.tn S.ec S.li S.wa S.qu S.qn
def St.bnd (S : St) (a b : Nat) : St := sM S.xs S.ys S.hs (vp_updL (vp_updL S.fx a (bSet (S.fx a) b)) b (bSet (vp_updL S.fx a (bSet (S.fx a) b) b) a)) S.hx S.hy S.th S.hn S.g S.ap S.ow S.co S.en S.ne S.rd S.tn S.ec S.li S.wa S.qu S.qn
def St.unb (S : St) (a b : Nat) : St := sM S.xs S.ys S.hs (vp_updL (vp_updL S.fx a (bClr (S.fx a) b)) b (bClr (vp_updL S.fx a (bClr (S.fx a) b) b) a)) S.hx S.hy S.th S.hn S.g S.ap S.ow S.co S.en S.ne S.rd S.tn S.ec S.li S.wa S.qu S.qn
def St.cut2 (S : St) (a b p : Nat) : St := if S.bound a b then ((S.unb a b).bnd a p).bnd b p else S
def St.spl (S : St) (a b p d : Nat) : St := ((S.strip b a d).put a d p).put d b p
def St.cut3 (S : St) (a b p : Nat) : St := if S.ap (b * 40 + a) = -1 then S.cut2 a b p else (S.cut2 a b p).spl a b p (S.ap (b * 40 + a)).toNat
/-- a point joined to a side -/
def St.joi (S : St) (a b p : Nat) : St := if 0 < S.sd3 a b p then S.put a b p else S.cut3 a b p
theorem St.plc_wI {S : St} {p : Nat} {x y : Int} (h : S.wI) (hq : inSq x y) : (S.plc p x y).wI := by
  refine ⟨h.A, h.Q, fun j hj => ?_, h.I, h.U, h.CN⟩
  have h1 := h.B j hj
  show -1000 ≤ uZ S.xs p x j ∧ uZ S.xs p x j ≤ 1000 ∧ -1000 ≤ uZ S.ys p y j ∧ uZ S.ys p y j ≤ 1000
  unfold uZ
  split <;> omega
theorem St.bnd_wI {S : St} {a b : Nat} (h : S.wI) : (S.bnd a b).wI := ⟨h.A, h.Q, h.B, h.I, h.U, h.CN⟩
theorem St.unb_wI {S : St} {a b : Nat} (h : S.wI) : (S.unb a b).wI := ⟨h.A, h.Q, h.B, h.I, h.U, h.CN⟩
theorem St.strip_wI {S : St} {a b c : Nat} (h : S.wI) : (S.strip a b c).wI := ⟨ap3_b h.A (by omega) (by omega) (by omega), h.Q, h.B, h.I, h.U, h.CN⟩
theorem St.cut2_wI {S : St} {a b p : Nat} (h : S.wI) : (S.cut2 a b p).wI := by
  unfold St.cut2
  split
  · exact St.bnd_wI (St.bnd_wI (St.unb_wI h))
  · exact h
theorem St.cut2_ap (S : St) (a b p : Nat) : (S.cut2 a b p).ap = S.ap := by
  unfold St.cut2
  split <;> rfl
theorem St.spl_wI {S : St} {a b p d : Nat} (ha : a < 40) (hb : b < 40) (hp : p < 40) (hd : d < 40) (h : S.wI) : (S.spl a b p d).wI := St.put_wI hd hb hp (St.put_wI ha hd hp (St.strip_wI h))
theorem St.joi_wI {S : St} {a b p : Nat} (ha : a < 40) (hb : b < 40) (hp : p < 40) (h : S.wI) : (S.joi a b p).wI := by
  unfold St.joi
  split
  · exact St.put_wI ha hb hp h
  · unfold St.cut3
    split
    · exact St.cut2_wI h
    · have := h.A (b * 40 + a) (by omega)
      exact St.spl_wI ha hb hp (by omega) (St.cut2_wI h)
theorem St.joi_in {S : St} {a b p : Nat} (hz : 0 < S.sd3 a b p) : S.joi a b p = S.put a b p := if_pos hz
theorem St.joi_on {S : St} {a b p : Nat} (hz : ¬ 0 < S.sd3 a b p) : S.joi a b p = S.cut3 a b p := if_neg hz
theorem St.cut3_0 {S : St} {a b p : Nat} (hz : S.ap (b * 40 + a) = -1) : S.cut3 a b p = S.cut2 a b p := if_pos hz
theorem St.cut3_1 {S : St} {a b p : Nat} (hz : ¬ S.ap (b * 40 + a) = -1) : S.cut3 a b p = (S.cut2 a b p).spl a b p (S.ap (b * 40 + a)).toNat := if_neg hz
theorem St.cut2_1 {S : St} {a b p : Nat} (hz : S.bound a b) : S.cut2 a b p = ((S.unb a b).bnd a p).bnd b p := if_pos hz
theorem St.cut2_0 {S : St} {a b p : Nat} (hz : ¬ S.bound a b) : S.cut2 a b p = S := if_neg hz
theorem c_join {pre post : pW} {m : Nat} (hm : pre.length = m) (S : St) {a b p : Nat} (ha : a < 40) (hb : b < 40) (hp : p < 40) (h : S.wI) : pRun 6 [.ref m, .int (iI (a : Int)), .int (iI (b : Int)), .int (iI (p : Int))] (pre ++ (mB m S ++ post)) none (pre ++ (mB m (S.joi a b p) ++ post)) := by
  refine qx_run ?_
  refine pc_run (lv := [(0, .ref m), (1, .int (iI (a : Int))), (2, .int (iI (b : Int))), (3, .int (iI (p : Int)))]) rfl ?_
  have hs9 := S.sd3_b h.B ha hb hp
  have hap := h.A (b * 40 + a) (by omega)
  refine pe_go (pc := 0) rfl (s_aload_n rfl) ?_
  refine pe_go (pc := 1) rfl (s_getf (v := .ref (m + 1)) (gA0 hm (mB_0 _ _ _)) rfl) ?_
  refine pe_go (pc := 4) rfl (s_iload_n rfl) ?_
  refine pe_go (pc := 5) rfl (s_iload_n rfl) ?_
  refine pe_go (pc := 6) rfl (s_iload_n rfl) ?_
  refine pe_call rfl (s_invV rfl (gA hm (mB_1 _ _ _)) rfl rfl) (c_side3 hm S ha hb hp) ?_
  by_cases c1 : (S.sd3 a b p) ≤ 0
  · skip
    refine pe_go rfl (s_if_le_t ⟨by omega, by omega⟩ c1) ?_
    refine pe_go (pc := 21) rfl (s_aload_n rfl) ?_
    refine pe_go (pc := 22) rfl (s_getf (v := .ref (m + 1)) (gA0 hm (mB_0 _ _ _)) rfl) ?_
    refine pe_go (pc := 25) rfl (s_iload_n rfl) ?_
    refine pe_go (pc := 26) rfl (s_iload_n rfl) ?_
    refine pe_call rfl (s_invV rfl (gA hm (mB_1 _ _ _)) rfl rfl) (c_isBound hm S ha hb) ?_
    by_cases b2 : S.bound a b
    · skip
      refine pe_go rfl (s_ifeq_true (decide_eq_true b2)) ?_
      refine pe_go (pc := 33) rfl (s_aload_n rfl) ?_
      refine pe_go (pc := 34) rfl (s_getf (v := .ref (m + 1)) (gA0 hm (mB_0 _ _ _)) rfl) ?_
      refine pe_go (pc := 37) rfl (s_iload_n rfl) ?_
      refine pe_go (pc := 38) rfl (s_iload_n rfl) ?_
      refine pe_call rfl (s_invV rfl (gA hm (mB_1 _ _ _)) rfl rfl) (c_unbind hm S ha hb) ?_
      refine pe_go (pc := 42) rfl (s_aload_n rfl) ?_
      refine pe_go (pc := 43) rfl (s_getf (v := .ref (m + 1)) (gA0 hm (mB_0 _ _ _)) rfl) ?_
      refine pe_go (pc := 46) rfl (s_iload_n rfl) ?_
      refine pe_go (pc := 47) rfl (s_iload_n rfl) ?_
      refine pe_call rfl (s_invV rfl (gA hm (mB_1 _ _ _)) rfl rfl) (c_bind hm (S.unb a b) ha hp) ?_
      refine pe_go (pc := 51) rfl (s_aload_n rfl) ?_
      refine pe_go (pc := 52) rfl (s_getf (v := .ref (m + 1)) (gA0 hm (mB_0 _ _ _)) rfl) ?_
      refine pe_go (pc := 55) rfl (s_iload_n rfl) ?_
      refine pe_go (pc := 56) rfl (s_iload_n rfl) ?_
      refine pe_call rfl (s_invV rfl (gA hm (mB_1 _ _ _)) rfl rfl) (c_bind hm ((S.unb a b).bnd a p) hb hp) ?_
      refine pe_go (pc := 60) rfl (s_aload_n rfl) ?_
      refine pe_go (pc := 61) rfl (s_getf (v := .ref (m + 8)) (gA0 hm (mB_0 _ _ _)) rfl) ?_
      refine pe_go (pc := 64) rfl (s_iload_n rfl) ?_
      refine pe_go (pc := 65) rfl (s_bipush (z := 40) rfl) ?_
      refine pe_go (pc := 67) rfl s_imul ?_
      refine pe_go (pc := 68) rfl (s_iload_n rfl) ?_
      refine pe_go (pc := 69) rfl s_iadd ?_
      refine pe_go (pc := 70) rfl (s_iald (n := 1600) (f := (((S.unb a b).bnd a p).bnd b p).ap) (v := S.ap (b * 40 + a)) (gA hm (mB_ap _ _ _)) (k := (b * 40) + a) (by omega) (by omega) (by decide) rfl) ?_
      refine pe_go (pc := 71) rfl (s_istore (lv' := [(4, .int (iI (S.ap (b * 40 + a)))), (0, .ref m), (1, .int (iI (a : Int))), (2, .int (iI (b : Int))), (3, .int (iI (p : Int)))]) rfl) ?_
      refine pe_go (pc := 73) rfl (s_iload rfl) ?_
      refine pe_go (pc := 75) rfl (s_iconst (z := -1) rfl) ?_
      by_cases c3 : (S.ap (b * 40 + a)) = (-1)
      · skip
        refine pe_go rfl (s_icmp_eq_t ⟨by omega, by omega⟩ ⟨by decide, by decide⟩ c3) ?_
        refine pe_ret rfl s_retv ⟨rfl, ?_⟩
        rw [St.joi_on (by omega)]
        first | rw [St.cut3_0 (by assumption)] | rw [St.cut3_1 (by assumption)]
        first | rw [St.cut2_1 (by assumption)] | rw [St.cut2_0 (by assumption)]
        try rfl
      · skip
        refine pe_go rfl (s_icmp_eq_f ⟨by omega, by omega⟩ ⟨by decide, by decide⟩ c3) ?_
        have hd9 : S.ap (b * 40 + a) = ((S.ap (b * 40 + a)).toNat : Int) := by omega
        have hd8 : (S.ap (b * 40 + a)).toNat < 40 := by omega
        rw [hd9]
        refine pe_go (pc := 79) rfl (s_aload_n rfl) ?_
        refine pe_go (pc := 80) rfl (s_iload_n rfl) ?_
        refine pe_go (pc := 81) rfl (s_iload_n rfl) ?_
        refine pe_go (pc := 82) rfl (s_iload rfl) ?_
        refine pe_call rfl (s_invV rfl (gA0 hm (mB_0 _ _ _)) rfl rfl) (c_strip hm (((S.unb a b).bnd a p).bnd b p) hb ha (c := ((S.ap (b * 40 + a)).toNat)) (by omega)) ?_
        refine pe_go (pc := 87) rfl (s_aload_n rfl) ?_
        refine pe_go (pc := 88) rfl (s_iload_n rfl) ?_
        refine pe_go (pc := 89) rfl (s_iload rfl) ?_
        refine pe_go (pc := 91) rfl (s_iload_n rfl) ?_
        refine pe_call rfl (s_invV rfl (gA0 hm (mB_0 _ _ _)) rfl rfl) (c_put hm ((((S.unb a b).bnd a p).bnd b p).strip b a ((S.ap (b * 40 + a)).toNat)) ha (by omega) hp h.Q) ?_
        refine pe_go (pc := 95) rfl (s_aload_n rfl) ?_
        refine pe_go (pc := 96) rfl (s_iload rfl) ?_
        refine pe_go (pc := 98) rfl (s_iload_n rfl) ?_
        refine pe_go (pc := 99) rfl (s_iload_n rfl) ?_
        refine pe_call rfl (s_invV rfl (gA0 hm (mB_0 _ _ _)) rfl rfl) (c_put hm (((((S.unb a b).bnd a p).bnd b p).strip b a ((S.ap (b * 40 + a)).toNat)).put a ((S.ap (b * 40 + a)).toNat) p) (by omega) hb hp (St.put_qn _ _ _ _ h.Q)) ?_
        refine pe_ret rfl s_retv ⟨rfl, ?_⟩
        rw [St.joi_on (by omega)]
        first | rw [St.cut3_0 (by assumption)] | rw [St.cut3_1 (by assumption)]
        first | rw [St.cut2_1 (by assumption)] | rw [St.cut2_0 (by assumption)]
        try rfl
    · skip
      refine pe_go rfl (s_ifeq_false (decide_eq_false b2)) ?_
      refine pe_go (pc := 60) rfl (s_aload_n rfl) ?_
      refine pe_go (pc := 61) rfl (s_getf (v := .ref (m + 8)) (gA0 hm (mB_0 _ _ _)) rfl) ?_
      refine pe_go (pc := 64) rfl (s_iload_n rfl) ?_
      refine pe_go (pc := 65) rfl (s_bipush (z := 40) rfl) ?_
      refine pe_go (pc := 67) rfl s_imul ?_
      refine pe_go (pc := 68) rfl (s_iload_n rfl) ?_
      refine pe_go (pc := 69) rfl s_iadd ?_
      refine pe_go (pc := 70) rfl (s_iald (n := 1600) (f := S.ap) (v := S.ap (b * 40 + a)) (gA hm (mB_ap _ _ _)) (k := (b * 40) + a) (by omega) (by omega) (by decide) rfl) ?_
      refine pe_go (pc := 71) rfl (s_istore (lv' := [(4, .int (iI (S.ap (b * 40 + a)))), (0, .ref m), (1, .int (iI (a : Int))), (2, .int (iI (b : Int))), (3, .int (iI (p : Int)))]) rfl) ?_
      refine pe_go (pc := 73) rfl (s_iload rfl) ?_
      refine pe_go (pc := 75) rfl (s_iconst (z := -1) rfl) ?_
      by_cases c4 : (S.ap (b * 40 + a)) = (-1)
      · skip
        refine pe_go rfl (s_icmp_eq_t ⟨by omega, by omega⟩ ⟨by decide, by decide⟩ c4) ?_
        refine pe_ret rfl s_retv ⟨rfl, ?_⟩
        rw [St.joi_on (by omega)]
        first | rw [St.cut3_0 (by assumption)] | rw [St.cut3_1 (by assumption)]
        first | rw [St.cut2_1 (by assumption)] | rw [St.cut2_0 (by assumption)]
        try rfl
      · skip
        refine pe_go rfl (s_icmp_eq_f ⟨by omega, by omega⟩ ⟨by decide, by decide⟩ c4) ?_
        have hd9 : S.ap (b * 40 + a) = ((S.ap (b * 40 + a)).toNat : Int) := by omega
        have hd8 : (S.ap (b * 40 + a)).toNat < 40 := by omega
        rw [hd9]
        refine pe_go (pc := 79) rfl (s_aload_n rfl) ?_
        refine pe_go (pc := 80) rfl (s_iload_n rfl) ?_
        refine pe_go (pc := 81) rfl (s_iload_n rfl) ?_
        refine pe_go (pc := 82) rfl (s_iload rfl) ?_
        refine pe_call rfl (s_invV rfl (gA0 hm (mB_0 _ _ _)) rfl rfl) (c_strip hm S hb ha (c := ((S.ap (b * 40 + a)).toNat)) (by omega)) ?_
        refine pe_go (pc := 87) rfl (s_aload_n rfl) ?_
        refine pe_go (pc := 88) rfl (s_iload_n rfl) ?_
        refine pe_go (pc := 89) rfl (s_iload rfl) ?_
        refine pe_go (pc := 91) rfl (s_iload_n rfl) ?_
        refine pe_call rfl (s_invV rfl (gA0 hm (mB_0 _ _ _)) rfl rfl) (c_put hm (S.strip b a ((S.ap (b * 40 + a)).toNat)) ha (by omega) hp h.Q) ?_
        refine pe_go (pc := 95) rfl (s_aload_n rfl) ?_
        refine pe_go (pc := 96) rfl (s_iload rfl) ?_
        refine pe_go (pc := 98) rfl (s_iload_n rfl) ?_
        refine pe_go (pc := 99) rfl (s_iload_n rfl) ?_
        refine pe_call rfl (s_invV rfl (gA0 hm (mB_0 _ _ _)) rfl rfl) (c_put hm ((S.strip b a ((S.ap (b * 40 + a)).toNat)).put a ((S.ap (b * 40 + a)).toNat) p) (by omega) hb hp (St.put_qn _ _ _ _ h.Q)) ?_
        refine pe_ret rfl s_retv ⟨rfl, ?_⟩
        rw [St.joi_on (by omega)]
        first | rw [St.cut3_0 (by assumption)] | rw [St.cut3_1 (by assumption)]
        first | rw [St.cut2_1 (by assumption)] | rw [St.cut2_0 (by assumption)]
        try rfl
  · skip
    refine pe_go rfl (s_if_le_f ⟨by omega, by omega⟩ c1) ?_
    refine pe_go (pc := 13) rfl (s_aload_n rfl) ?_
    refine pe_go (pc := 14) rfl (s_iload_n rfl) ?_
    refine pe_go (pc := 15) rfl (s_iload_n rfl) ?_
    refine pe_go (pc := 16) rfl (s_iload_n rfl) ?_
    refine pe_call rfl (s_invV rfl (gA0 hm (mB_0 _ _ _)) rfl rfl) (c_put hm S ha hb hp h.Q) ?_
    refine pe_ret rfl s_retv ⟨rfl, ?_⟩
    rw [St.joi_in (by omega)]
