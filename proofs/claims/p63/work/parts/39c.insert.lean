/-! THE CLASS: a point put in, told; an edge freed. Rows laid by program (wip/p63/wk.py, mk39c.py). -/
/-- the point p put in at x, y, in the triangle t -/
def St.ins0 (S : St) (p : Nat) (x y : Int) (a b c : Nat) : St := ((((S.plc p x y).strip a b c).joi a b p).joi b c p).joi c a p
def St.ins (S : St) (p : Nat) (x y : Int) (t : Nat) : St := S.ins0 p x y (S.cn t 0) (S.cn t 1) (S.cn t 2)
theorem St.ins0_wI {S : St} {p a b c : Nat} {x y : Int} (hp : p < 40) (ha : a < 40) (hb : b < 40) (hc : c < 40) (hq : inSq x y) (h : S.wI) : (S.ins0 p x y a b c).wI := St.joi_wI hc ha hp (St.joi_wI hb hc hp (St.joi_wI ha hb hp (St.strip_wI (St.plc_wI h hq))))
theorem c_whereV {pre post : pW} {m : Nat} (hm : pre.length = m) (S : St) {T : Nat} (hT : S.tn = (T : Int)) (hT2 : T ≤ 74) {x y z : Int} (hq : inSq x y) (hC : S.okC) (h : S.inB) (hz : S.wiF x y T 0 = z) : pRun 38 [.ref m, .int (iI x), .int (iI y)] (pre ++ (mB m S ++ post)) (some (.int (iI z))) (pre ++ (mB m S ++ post)) := by
  subst hz
  exact c_whereIn hm S hT hT2 hq hC h
theorem c_insert {pre post : pW} {m : Nat} (hm : pre.length = m) (S : St) {p t T : Nat} {x y : Int} (hp : p < 40) (hT : S.tn = (T : Int)) (hT2 : T ≤ 74) (hq : inSq x y) (hC : S.okC) (h : S.wI) (ht : t < 74) (hw : S.wiF x y T 0 = (t : Int)) (hL : (S.ins p x y t).setL) : qC 5 [.ref m, .int (iI (p : Int)), .int (iI x), .int (iI y)] (pre ++ (mB m S ++ post)) (setW pre post m (S.ins p x y t)) := by
  have ha : S.cn t 0 < 40 := St.cn_lt hC (by omega)
  have hb : S.cn t 1 < 40 := St.cn_lt hC (by omega)
  have hc : S.cn t 2 < 40 := St.cn_lt hC (by omega)
  refine pc_run (lv := [(0, .ref m), (1, .int (iI (p : Int))), (2, .int (iI x)), (3, .int (iI y))]) rfl ?_
  refine pe_go (pc := 0) rfl (s_aload_n rfl) ?_
  refine pe_go (pc := 1) rfl (s_iload_n rfl) ?_
  refine pe_go (pc := 2) rfl (s_iload_n rfl) ?_
  refine pe_call rfl (s_invV rfl (gA0 hm (mB_0 _ _ _)) rfl rfl) (c_whereV hm S hT hT2 hq hC h.B hw) ?_
  refine pe_go (pc := 6) rfl (s_istore (lv' := [(4, .int (iI (t : Int))), (0, .ref m), (1, .int (iI (p : Int))), (2, .int (iI x)), (3, .int (iI y))]) rfl) ?_
  refine pe_go (pc := 8) rfl (s_iload rfl) ?_
  refine pe_go (pc := 10) rfl (s_iconst (z := -1) rfl) ?_
  refine pe_go rfl (s_icmp_ne_t ⟨by omega, by omega⟩ ⟨by decide, by decide⟩ (by omega)) ?_
  refine pe_go (pc := 15) rfl (s_aload_n rfl) ?_
  refine pe_go (pc := 16) rfl (s_iload rfl) ?_
  refine pe_go (pc := 18) rfl (s_iconst (z := 0) rfl) ?_
  refine pe_call rfl (s_invV rfl (gA0 hm (mB_0 _ _ _)) rfl rfl) (c_cornerOf hm S (t := t) (k := 0) (by omega) hC) ?_
  refine pe_go (pc := 22) rfl (s_istore (lv' := [(5, .int (iI ((S.cn t 0 : Nat) : Int))), (4, .int (iI (t : Int))), (0, .ref m), (1, .int (iI (p : Int))), (2, .int (iI x)), (3, .int (iI y))]) rfl) ?_
  refine pe_go (pc := 24) rfl (s_aload_n rfl) ?_
  refine pe_go (pc := 25) rfl (s_iload rfl) ?_
  refine pe_go (pc := 27) rfl (s_iconst (z := 1) rfl) ?_
  refine pe_call rfl (s_invV rfl (gA0 hm (mB_0 _ _ _)) rfl rfl) (c_cornerOf hm S (t := t) (k := 1) (by omega) hC) ?_
  refine pe_go (pc := 31) rfl (s_istore (lv' := [(6, .int (iI ((S.cn t 1 : Nat) : Int))), (5, .int (iI ((S.cn t 0 : Nat) : Int))), (4, .int (iI (t : Int))), (0, .ref m), (1, .int (iI (p : Int))), (2, .int (iI x)), (3, .int (iI y))]) rfl) ?_
  refine pe_go (pc := 33) rfl (s_aload_n rfl) ?_
  refine pe_go (pc := 34) rfl (s_iload rfl) ?_
  refine pe_go (pc := 36) rfl (s_iconst (z := 2) rfl) ?_
  refine pe_call rfl (s_invV rfl (gA0 hm (mB_0 _ _ _)) rfl rfl) (c_cornerOf hm S (t := t) (k := 2) (by omega) hC) ?_
  refine pe_go (pc := 40) rfl (s_istore (lv' := [(7, .int (iI ((S.cn t 2 : Nat) : Int))), (6, .int (iI ((S.cn t 1 : Nat) : Int))), (5, .int (iI ((S.cn t 0 : Nat) : Int))), (4, .int (iI (t : Int))), (0, .ref m), (1, .int (iI (p : Int))), (2, .int (iI x)), (3, .int (iI y))]) rfl) ?_
  refine pe_go (pc := 42) rfl (s_aload_n rfl) ?_
  refine pe_go (pc := 43) rfl (s_getf (v := .ref (m + 1)) (gA0 hm (mB_0 _ _ _)) rfl) ?_
  refine pe_go (pc := 46) rfl (s_iload_n rfl) ?_
  refine pe_go (pc := 47) rfl (s_iload_n rfl) ?_
  refine pe_go (pc := 48) rfl (s_iload_n rfl) ?_
  refine pe_call rfl (s_invV rfl (gA hm (mB_1 _ _ _)) rfl rfl) (c_place hm S hp) ?_
  refine pe_go (pc := 52) rfl (s_aload_n rfl) ?_
  refine pe_go (pc := 53) rfl (s_iload rfl) ?_
  refine pe_go (pc := 55) rfl (s_iload rfl) ?_
  refine pe_go (pc := 57) rfl (s_iload rfl) ?_
  refine pe_call rfl (s_invV rfl (gA0 hm (mB_0 _ _ _)) rfl rfl) (c_strip hm (S.plc p x y) ha hb hc) ?_
  refine pe_go (pc := 62) rfl (s_aload_n rfl) ?_
  refine pe_go (pc := 63) rfl (s_iload rfl) ?_
  refine pe_go (pc := 65) rfl (s_iload rfl) ?_
  refine pe_go (pc := 67) rfl (s_iload_n rfl) ?_
  refine pe_call rfl (s_invV rfl (gA0 hm (mB_0 _ _ _)) rfl rfl) (c_join hm ((S.plc p x y).strip (S.cn t 0) (S.cn t 1) (S.cn t 2)) ha hb hp (St.strip_wI (St.plc_wI h hq))) ?_
  refine pe_go (pc := 71) rfl (s_aload_n rfl) ?_
  refine pe_go (pc := 72) rfl (s_iload rfl) ?_
  refine pe_go (pc := 74) rfl (s_iload rfl) ?_
  refine pe_go (pc := 76) rfl (s_iload_n rfl) ?_
  refine pe_call rfl (s_invV rfl (gA0 hm (mB_0 _ _ _)) rfl rfl) (c_join hm (((S.plc p x y).strip (S.cn t 0) (S.cn t 1) (S.cn t 2)).joi (S.cn t 0) (S.cn t 1) p) hb hc hp (St.joi_wI ha hb hp (St.strip_wI (St.plc_wI h hq)))) ?_
  refine pe_go (pc := 80) rfl (s_aload_n rfl) ?_
  refine pe_go (pc := 81) rfl (s_iload rfl) ?_
  refine pe_go (pc := 83) rfl (s_iload rfl) ?_
  refine pe_go (pc := 85) rfl (s_iload_n rfl) ?_
  refine pe_call rfl (s_invV rfl (gA0 hm (mB_0 _ _ _)) rfl rfl) (c_join hm ((((S.plc p x y).strip (S.cn t 0) (S.cn t 1) (S.cn t 2)).joi (S.cn t 0) (S.cn t 1) p).joi (S.cn t 1) (S.cn t 2) p) hc ha hp (St.joi_wI hb hc hp (St.joi_wI ha hb hp (St.strip_wI (St.plc_wI h hq))))) ?_
  refine pe_go (pc := 89) rfl (s_aload_n rfl) ?_
  refine pe_callE rfl (s_invV rfl (gA0 hm (mB_0 _ _ _)) rfl rfl) (c_settle hm (S.ins p x y t) (St.ins0_wI hp ha hb hc hq h) hL) ?_
  rintro _ _ ⟨li1, hli1, rfl, hW1⟩
  exact pe_ret rfl s_retv ⟨li1, hli1, rfl, hW1⟩
theorem c_tellNo {pre post : pW} {m : Nat} (hm : pre.length = m) (S : St) {x y : Int} (hx : sm x) (hy : sm y) (h : S.inB) (hz : ¬ S.takes x y) : pRun 4 [.ref m, .int (iI x), .int (iI y)] (pre ++ (mB m S ++ post)) (some (.int (iI (-1)))) (pre ++ (mB m S ++ post)) := by
  refine qx_run ?_
  refine pc_run (lv := [(0, .ref m), (1, .int (iI x)), (2, .int (iI y))]) rfl ?_
  refine pe_go (pc := 0) rfl (s_aload_n rfl) ?_
  refine pe_go (pc := 1) rfl (s_getf (v := .ref (m + 1)) (gA0 hm (mB_0 _ _ _)) rfl) ?_
  refine pe_go (pc := 4) rfl (s_iload_n rfl) ?_
  refine pe_go (pc := 5) rfl (s_iload_n rfl) ?_
  refine pe_call rfl (s_invV rfl (gA hm (mB_1 _ _ _)) rfl rfl) (c_takes hm S hx hy h) ?_
  refine pe_go rfl (s_ifne_false (decide_eq_false hz)) ?_
  refine pe_go (pc := 12) rfl (s_iconst (z := -1) rfl) ?_
  exact pe_ret rfl s_reti ⟨rfl, rfl⟩
theorem St.wiF_hs (S : St) (f : Nat → Int) (x y : Int) : ∀ (n t : Nat), (S.u_hs f).wiF x y n t = S.wiF x y n t := by
  intro n
  induction n with
  | zero => intro t; rfl
  | succ n ih =>
    intro t
    by_cases c0 : S.hold t x y
    · rw [St.wiF_pos c0, St.wiF_pos (S := S.u_hs f) c0]
    · rw [St.wiF_neg c0, St.wiF_neg (S := S.u_hs f) c0]
      exact ih (t + 1)
theorem c_luV {pre post : pW} {m : Nat} (hm : pre.length = m) (S : St) {p : Nat} (hz : S.lu = (p : Int)) : pRun 69 [.ref (m + 1)] (pre ++ (mB m S ++ post)) (some (.int (iI (p : Int)))) (pre ++ (mB m S ++ post)) := by
  rw [← hz]
  exact c_lu hm S
/-- a point told: the world behind it -/
def St.tel (S : St) (p : Nat) (x y : Int) (t : Nat) : St := (S.u_hs (uZ S.hs p 0)).ins p x y t
def tellW (pre post : pW) (m : Nat) (S : St) (p : Nat) (x y : Int) (t : Nat) (r : Option Value) (w' : pW) : Prop := r = some (.int (iI (p : Int))) ∧ setW pre post m (S.tel p x y t) none w'
theorem c_tell {pre post : pW} {m : Nat} (hm : pre.length = m) (S : St) {p t T : Nat} {x y : Int} (hp : p < 40) (hT : S.tn = (T : Int)) (hT2 : T ≤ 74) (hq : inSq x y) (hC : S.okC) (h : S.wI) (ht : t < 74) (hw : S.wiF x y T 0 = (t : Int)) (htk : S.takes x y) (hlu : S.lu = (p : Int)) (hL : (S.tel p x y t).setL) : qC 4 [.ref m, .int (iI x), .int (iI y)] (pre ++ (mB m S ++ post)) (tellW pre post m S p x y t) := by
  refine pc_run (lv := [(0, .ref m), (1, .int (iI x)), (2, .int (iI y))]) rfl ?_
  refine pe_go (pc := 0) rfl (s_aload_n rfl) ?_
  refine pe_go (pc := 1) rfl (s_getf (v := .ref (m + 1)) (gA0 hm (mB_0 _ _ _)) rfl) ?_
  refine pe_go (pc := 4) rfl (s_iload_n rfl) ?_
  refine pe_go (pc := 5) rfl (s_iload_n rfl) ?_
  refine pe_call rfl (s_invV rfl (gA hm (mB_1 _ _ _)) rfl rfl) (c_takes hm S (by have := hq; exact ⟨by omega, by omega⟩) (by have := hq; exact ⟨by omega, by omega⟩) h.B) ?_
  refine pe_go rfl (s_ifne_true (decide_eq_true htk)) ?_
  refine pe_go (pc := 14) rfl (s_aload_n rfl) ?_
  refine pe_go (pc := 15) rfl (s_getf (v := .ref (m + 1)) (gA0 hm (mB_0 _ _ _)) rfl) ?_
  refine pe_call rfl (s_invV rfl (gA hm (mB_1 _ _ _)) rfl rfl) (c_luV hm S hlu) ?_
  refine pe_go (pc := 21) rfl (s_istore_n (lv' := [(3, .int (iI (p : Int))), (0, .ref m), (1, .int (iI x)), (2, .int (iI y))]) rfl) ?_
  refine pe_go (pc := 22) rfl (s_aload_n rfl) ?_
  refine pe_go (pc := 23) rfl (s_getf (v := .ref (m + 1)) (gA0 hm (mB_0 _ _ _)) rfl) ?_
  refine pe_go (pc := 26) rfl (s_getf (v := .ref (m + 4)) (gA hm (mB_1 _ _ _)) rfl) ?_
  refine pe_go (pc := 29) rfl (s_iload_n rfl) ?_
  refine pe_go (pc := 30) rfl (s_iconst (z := 0) rfl) ?_
  refine pe_go (pc := 31) rfl (s_iast (n := 40) (f := S.hs) (w' := pre ++ (mB m (S.u_hs (uZ S.hs p 0)) ++ post)) (gA hm (mB_hs _ _ _)) (k := p) (by omega) (by omega) (by decide) (gS hm (mB_s_hs _ _ _ _))) ?_
  refine pe_go (pc := 32) rfl (s_aload_n rfl) ?_
  refine pe_go (pc := 33) rfl (s_iload_n rfl) ?_
  refine pe_go (pc := 34) rfl (s_iload_n rfl) ?_
  refine pe_go (pc := 35) rfl (s_iload_n rfl) ?_
  refine pe_callE rfl (s_invV rfl (gA0 hm (mB_0 _ _ _)) rfl rfl) (c_insert hm (S.u_hs (uZ S.hs p 0)) hp hT hT2 hq hC h ht (by rw [St.wiF_hs]; exact hw) hL) ?_
  rintro _ _ ⟨li1, hli1, rfl, hW1⟩
  refine pe_go (pc := 39) rfl (s_iload_n rfl) ?_
  exact pe_ret rfl s_reti ⟨rfl, li1, hli1, rfl, hW1⟩
theorem c_freeEdge {pre post : pW} {m : Nat} (hm : pre.length = m) (S : St) {a b : Nat} (ha : a < 40) (hb : b < 40) (h : S.wI) (hL : ((S.unb a b).aw a b).setL) : qC 14 [.ref m, .int (iI (a : Int)), .int (iI (b : Int))] (pre ++ (mB m S ++ post)) (setW pre post m ((S.unb a b).aw a b)) := by
  refine pc_run (lv := [(0, .ref m), (1, .int (iI (a : Int))), (2, .int (iI (b : Int)))]) rfl ?_
  refine pe_go (pc := 0) rfl (s_aload_n rfl) ?_
  refine pe_go (pc := 1) rfl (s_getf (v := .ref (m + 1)) (gA0 hm (mB_0 _ _ _)) rfl) ?_
  refine pe_go (pc := 4) rfl (s_iload_n rfl) ?_
  refine pe_go (pc := 5) rfl (s_iload_n rfl) ?_
  refine pe_call rfl (s_invV rfl (gA hm (mB_1 _ _ _)) rfl rfl) (c_unbind hm S ha hb) ?_
  refine pe_go (pc := 9) rfl (s_aload_n rfl) ?_
  refine pe_go (pc := 10) rfl (s_iload_n rfl) ?_
  refine pe_go (pc := 11) rfl (s_iload_n rfl) ?_
  refine pe_call rfl (s_invV rfl (gA0 hm (mB_0 _ _ _)) rfl rfl) (c_await hm (S.unb a b) ha hb h.Q) ?_
  refine pe_go (pc := 15) rfl (s_aload_n rfl) ?_
  refine pe_callE rfl (s_invV rfl (gA0 hm (mB_0 _ _ _)) rfl rfl) (c_settle hm ((S.unb a b).aw a b) (St.aw_wI ha hb (St.unb_wI h)) hL) ?_
  rintro _ _ ⟨li1, hli1, rfl, hW1⟩
  exact pe_ret rfl s_retv ⟨li1, hli1, rfl, hW1⟩
