/-! THE CLASS: the mesh: triangles laid, edges waiting, flips, planes. Rows laid by program (wip/p63/wk.py, mk32.py). -/
theorem s_last_l {pc : Nat} {lv : pLv} {st : List Value} {w : pW} {a n k : Nat} {f : Nat → Int} {z v : Int} {w' : pW} (hw : w[a]? = some (.inl (1, n, .inr (.inl (fun j => lI (f j)))))) (hz : z = (k : Int)) (hk : k < n) (hn : n ≤ 2147483648) (hs : w.set a (.inl (1, n, .inr (.inl (fun j => lI (uZ f k v j))))) = w') : pS1 .lastore pc [] lv (.long (lI v) :: .int (iI z) :: .ref a :: st) w = some (.inl (pc + 1, lv, st, w')) := by
  refine s_last hw hz hk hn ?_
  have e9 : vp_updL (fun j => lI (f j)) k (lI v) = fun j => lI (uZ f k v j) := by
    funext j
    unfold vp_updL uZ
    by_cases e : j = k
    · rw [if_pos e, if_pos e]
    · rw [if_neg e, if_neg e]
  rw [e9]
  exact hs
def ap3 (f : Nat → Int) (a b c : Nat) (x y z : Int) : Nat → Int := uZ (uZ (uZ f (a * 40 + b) x) (b * 40 + c) y) (c * 40 + a) z
def St.lay (S : St) (a b c : Nat) : St := S.u_ap (ap3 S.ap a b c c a b)
def St.strip (S : St) (a b c : Nat) : St := S.u_ap (ap3 S.ap a b c (-1) (-1) (-1))
/-- an edge put among those that wait -/
def St.aw0 (S : St) (lo hi : Nat) : St := if bt (S.wa lo) hi = true ∨ 800 ≤ S.qn then S else ((S.u_wa (vp_updL S.wa lo (bSet (S.wa lo) hi))).u_qu (uZ S.qu S.qn.toNat ((lo : Int) * 40 + (hi : Int)))).u_qn (S.qn + 1)
def St.aw (S : St) (a b : Nat) : St := if a < b then S.aw0 a b else S.aw0 b a
def St.put (S : St) (a b c : Nat) : St := (((S.lay a b c).aw a b).aw b c).aw c a
theorem St.aw0_no {S : St} {lo hi : Nat} (hz : bt (S.wa lo) hi = true ∨ 800 ≤ S.qn) : S.aw0 lo hi = S := if_pos hz
theorem St.aw0_yes {S : St} {lo hi : Nat} (h1 : ¬ bt (S.wa lo) hi = true) (h2 : ¬ 800 ≤ S.qn) : S.aw0 lo hi = ((S.u_wa (vp_updL S.wa lo (bSet (S.wa lo) hi))).u_qu (uZ S.qu S.qn.toNat ((lo : Int) * 40 + (hi : Int)))).u_qn (S.qn + 1) := if_neg (fun z => z.elim h1 h2)
theorem St.aw_lt {S : St} {a b : Nat} (hz : a < b) : S.aw a b = S.aw0 a b := if_pos hz
theorem St.aw_ge {S : St} {a b : Nat} (hz : ¬ a < b) : S.aw a b = S.aw0 b a := if_neg hz
theorem St.aw0_xs (S : St) (a b : Nat) : (S.aw0 a b).xs = S.xs := by
  unfold St.aw0
  split <;> rfl
theorem St.aw_xs (S : St) (a b : Nat) : (S.aw a b).xs = S.xs := by
  unfold St.aw
  split
  · exact S.aw0_xs a b
  · exact S.aw0_xs b a
theorem St.put_xs (S : St) (a b c : Nat) : (S.put a b c).xs = S.xs := by
  unfold St.put
  rw [St.aw_xs, St.aw_xs, St.aw_xs]
  rfl
theorem St.aw0_ys (S : St) (a b : Nat) : (S.aw0 a b).ys = S.ys := by
  unfold St.aw0
  split <;> rfl
theorem St.aw_ys (S : St) (a b : Nat) : (S.aw a b).ys = S.ys := by
  unfold St.aw
  split
  · exact S.aw0_ys a b
  · exact S.aw0_ys b a
theorem St.put_ys (S : St) (a b c : Nat) : (S.put a b c).ys = S.ys := by
  unfold St.put
  rw [St.aw_ys, St.aw_ys, St.aw_ys]
  rfl
theorem St.aw0_hs (S : St) (a b : Nat) : (S.aw0 a b).hs = S.hs := by
  unfold St.aw0
  split <;> rfl
theorem St.aw_hs (S : St) (a b : Nat) : (S.aw a b).hs = S.hs := by
  unfold St.aw
  split
  · exact S.aw0_hs a b
  · exact S.aw0_hs b a
theorem St.put_hs (S : St) (a b c : Nat) : (S.put a b c).hs = S.hs := by
  unfold St.put
  rw [St.aw_hs, St.aw_hs, St.aw_hs]
  rfl
theorem St.aw0_fx (S : St) (a b : Nat) : (S.aw0 a b).fx = S.fx := by
  unfold St.aw0
  split <;> rfl
theorem St.aw_fx (S : St) (a b : Nat) : (S.aw a b).fx = S.fx := by
  unfold St.aw
  split
  · exact S.aw0_fx a b
  · exact S.aw0_fx b a
theorem St.put_fx (S : St) (a b c : Nat) : (S.put a b c).fx = S.fx := by
  unfold St.put
  rw [St.aw_fx, St.aw_fx, St.aw_fx]
  rfl
theorem St.aw0_hx (S : St) (a b : Nat) : (S.aw0 a b).hx = S.hx := by
  unfold St.aw0
  split <;> rfl
theorem St.aw_hx (S : St) (a b : Nat) : (S.aw a b).hx = S.hx := by
  unfold St.aw
  split
  · exact S.aw0_hx a b
  · exact S.aw0_hx b a
theorem St.put_hx (S : St) (a b c : Nat) : (S.put a b c).hx = S.hx := by
  unfold St.put
  rw [St.aw_hx, St.aw_hx, St.aw_hx]
  rfl
theorem St.aw0_hy (S : St) (a b : Nat) : (S.aw0 a b).hy = S.hy := by
  unfold St.aw0
  split <;> rfl
theorem St.aw_hy (S : St) (a b : Nat) : (S.aw a b).hy = S.hy := by
  unfold St.aw
  split
  · exact S.aw0_hy a b
  · exact S.aw0_hy b a
theorem St.put_hy (S : St) (a b c : Nat) : (S.put a b c).hy = S.hy := by
  unfold St.put
  rw [St.aw_hy, St.aw_hy, St.aw_hy]
  rfl
theorem St.aw0_th (S : St) (a b : Nat) : (S.aw0 a b).th = S.th := by
  unfold St.aw0
  split <;> rfl
theorem St.aw_th (S : St) (a b : Nat) : (S.aw a b).th = S.th := by
  unfold St.aw
  split
  · exact S.aw0_th a b
  · exact S.aw0_th b a
theorem St.put_th (S : St) (a b c : Nat) : (S.put a b c).th = S.th := by
  unfold St.put
  rw [St.aw_th, St.aw_th, St.aw_th]
  rfl
theorem St.aw0_hn (S : St) (a b : Nat) : (S.aw0 a b).hn = S.hn := by
  unfold St.aw0
  split <;> rfl
theorem St.aw_hn (S : St) (a b : Nat) : (S.aw a b).hn = S.hn := by
  unfold St.aw
  split
  · exact S.aw0_hn a b
  · exact S.aw0_hn b a
theorem St.put_hn (S : St) (a b c : Nat) : (S.put a b c).hn = S.hn := by
  unfold St.put
  rw [St.aw_hn, St.aw_hn, St.aw_hn]
  rfl
theorem St.aw0_g (S : St) (a b : Nat) : (S.aw0 a b).g = S.g := by
  unfold St.aw0
  split <;> rfl
theorem St.aw_g (S : St) (a b : Nat) : (S.aw a b).g = S.g := by
  unfold St.aw
  split
  · exact S.aw0_g a b
  · exact S.aw0_g b a
theorem St.put_g (S : St) (a b c : Nat) : (S.put a b c).g = S.g := by
  unfold St.put
  rw [St.aw_g, St.aw_g, St.aw_g]
  rfl
theorem St.aw0_ap (S : St) (a b : Nat) : (S.aw0 a b).ap = S.ap := by
  unfold St.aw0
  split <;> rfl
theorem St.aw_ap (S : St) (a b : Nat) : (S.aw a b).ap = S.ap := by
  unfold St.aw
  split
  · exact S.aw0_ap a b
  · exact S.aw0_ap b a
theorem St.put_ap (S : St) (a b c : Nat) : (S.put a b c).ap = ap3 S.ap a b c c a b := by
  unfold St.put
  rw [St.aw_ap, St.aw_ap, St.aw_ap]
  rfl
theorem St.aw0_ow (S : St) (a b : Nat) : (S.aw0 a b).ow = S.ow := by
  unfold St.aw0
  split <;> rfl
theorem St.aw_ow (S : St) (a b : Nat) : (S.aw a b).ow = S.ow := by
  unfold St.aw
  split
  · exact S.aw0_ow a b
  · exact S.aw0_ow b a
theorem St.put_ow (S : St) (a b c : Nat) : (S.put a b c).ow = S.ow := by
  unfold St.put
  rw [St.aw_ow, St.aw_ow, St.aw_ow]
  rfl
theorem St.aw0_co (S : St) (a b : Nat) : (S.aw0 a b).co = S.co := by
  unfold St.aw0
  split <;> rfl
theorem St.aw_co (S : St) (a b : Nat) : (S.aw a b).co = S.co := by
  unfold St.aw
  split
  · exact S.aw0_co a b
  · exact S.aw0_co b a
theorem St.put_co (S : St) (a b c : Nat) : (S.put a b c).co = S.co := by
  unfold St.put
  rw [St.aw_co, St.aw_co, St.aw_co]
  rfl
theorem St.aw0_en (S : St) (a b : Nat) : (S.aw0 a b).en = S.en := by
  unfold St.aw0
  split <;> rfl
theorem St.aw_en (S : St) (a b : Nat) : (S.aw a b).en = S.en := by
  unfold St.aw
  split
  · exact S.aw0_en a b
  · exact S.aw0_en b a
theorem St.put_en (S : St) (a b c : Nat) : (S.put a b c).en = S.en := by
  unfold St.put
  rw [St.aw_en, St.aw_en, St.aw_en]
  rfl
theorem St.aw0_ne (S : St) (a b : Nat) : (S.aw0 a b).ne = S.ne := by
  unfold St.aw0
  split <;> rfl
theorem St.aw_ne (S : St) (a b : Nat) : (S.aw a b).ne = S.ne := by
  unfold St.aw
  split
  · exact S.aw0_ne a b
  · exact S.aw0_ne b a
theorem St.put_ne (S : St) (a b c : Nat) : (S.put a b c).ne = S.ne := by
  unfold St.put
  rw [St.aw_ne, St.aw_ne, St.aw_ne]
  rfl
theorem St.aw0_rd (S : St) (a b : Nat) : (S.aw0 a b).rd = S.rd := by
  unfold St.aw0
  split <;> rfl
theorem St.aw_rd (S : St) (a b : Nat) : (S.aw a b).rd = S.rd := by
  unfold St.aw
  split
  · exact S.aw0_rd a b
  · exact S.aw0_rd b a
theorem St.put_rd (S : St) (a b c : Nat) : (S.put a b c).rd = S.rd := by
  unfold St.put
  rw [St.aw_rd, St.aw_rd, St.aw_rd]
  rfl
theorem St.aw0_tn (S : St) (a b : Nat) : (S.aw0 a b).tn = S.tn := by
  unfold St.aw0
  split <;> rfl
theorem St.aw_tn (S : St) (a b : Nat) : (S.aw a b).tn = S.tn := by
  unfold St.aw
  split
  · exact S.aw0_tn a b
  · exact S.aw0_tn b a
theorem St.put_tn (S : St) (a b c : Nat) : (S.put a b c).tn = S.tn := by
  unfold St.put
  rw [St.aw_tn, St.aw_tn, St.aw_tn]
  rfl
theorem St.aw0_ec (S : St) (a b : Nat) : (S.aw0 a b).ec = S.ec := by
  unfold St.aw0
  split <;> rfl
theorem St.aw_ec (S : St) (a b : Nat) : (S.aw a b).ec = S.ec := by
  unfold St.aw
  split
  · exact S.aw0_ec a b
  · exact S.aw0_ec b a
theorem St.put_ec (S : St) (a b c : Nat) : (S.put a b c).ec = S.ec := by
  unfold St.put
  rw [St.aw_ec, St.aw_ec, St.aw_ec]
  rfl
theorem St.aw0_li (S : St) (a b : Nat) : (S.aw0 a b).li = S.li := by
  unfold St.aw0
  split <;> rfl
theorem St.aw_li (S : St) (a b : Nat) : (S.aw a b).li = S.li := by
  unfold St.aw
  split
  · exact S.aw0_li a b
  · exact S.aw0_li b a
theorem St.put_li (S : St) (a b c : Nat) : (S.put a b c).li = S.li := by
  unfold St.put
  rw [St.aw_li, St.aw_li, St.aw_li]
  rfl
abbrev okQ (S : St) : Prop := 0 ≤ S.qn ∧ S.qn ≤ 800
theorem St.aw0_qn (S : St) (a b : Nat) (hq : okQ S) : okQ (S.aw0 a b) := by
  unfold St.aw0
  split
  · exact hq
  · rename_i hz
    show 0 ≤ S.qn + 1 ∧ S.qn + 1 ≤ 800
    have : ¬ 800 ≤ S.qn := fun g => hz (Or.inr g)
    omega
theorem St.aw_qn (S : St) (a b : Nat) (hq : okQ S) : okQ (S.aw a b) := by
  unfold St.aw
  split
  · exact S.aw0_qn a b hq
  · exact S.aw0_qn b a hq
theorem St.put_qn (S : St) (a b c : Nat) (hq : okQ S) : okQ (S.put a b c) := St.aw_qn _ _ _ (St.aw_qn _ _ _ (St.aw_qn _ _ _ hq))
theorem c_lay {pre post : pW} {m : Nat} (hm : pre.length = m) (S : St) {a b c : Nat} (ha : a < 40) (hb : b < 40) (hc : c < 40) : pRun 15 [.ref m, .int (iI (a : Int)), .int (iI (b : Int)), .int (iI (c : Int))] (pre ++ (mB m S ++ post)) none (pre ++ (mB m (S.lay a b c) ++ post)) := by
  refine qx_run ?_
  refine pc_run (lv := [(0, .ref m), (1, .int (iI (a : Int))), (2, .int (iI (b : Int))), (3, .int (iI (c : Int)))]) rfl ?_
  refine pe_go (pc := 0) rfl (s_aload_n rfl) ?_
  refine pe_go (pc := 1) rfl (s_getf (v := .ref (m + 8)) (gA0 hm (mB_0 _ _ _)) rfl) ?_
  refine pe_go (pc := 4) rfl (s_iload_n rfl) ?_
  refine pe_go (pc := 5) rfl (s_bipush (z := 40) rfl) ?_
  refine pe_go (pc := 7) rfl s_imul ?_
  refine pe_go (pc := 8) rfl (s_iload_n rfl) ?_
  refine pe_go (pc := 9) rfl s_iadd ?_
  refine pe_go (pc := 10) rfl (s_iload_n rfl) ?_
  refine pe_go (pc := 11) rfl (s_iast (n := 1600) (f := S.ap) (w' := pre ++ (mB m (S.u_ap (uZ S.ap ((a * 40) + b) (c : Int))) ++ post)) (gA hm (mB_ap _ _ _)) (k := (a * 40) + b) (by omega) (by omega) (by decide) (gS hm (mB_s_ap _ _ _ _))) ?_
  refine pe_go (pc := 12) rfl (s_aload_n rfl) ?_
  refine pe_go (pc := 13) rfl (s_getf (v := .ref (m + 8)) (gA0 hm (mB_0 _ _ _)) rfl) ?_
  refine pe_go (pc := 16) rfl (s_iload_n rfl) ?_
  refine pe_go (pc := 17) rfl (s_bipush (z := 40) rfl) ?_
  refine pe_go (pc := 19) rfl s_imul ?_
  refine pe_go (pc := 20) rfl (s_iload_n rfl) ?_
  refine pe_go (pc := 21) rfl s_iadd ?_
  refine pe_go (pc := 22) rfl (s_iload_n rfl) ?_
  refine pe_go (pc := 23) rfl (s_iast (n := 1600) (f := uZ S.ap ((a * 40) + b) (c : Int)) (w' := pre ++ (mB m (S.u_ap (uZ (uZ S.ap ((a * 40) + b) (c : Int)) ((b * 40) + c) (a : Int))) ++ post)) (gA hm (mB_ap _ _ _)) (k := (b * 40) + c) (by omega) (by omega) (by decide) (gS hm (mB_s_ap _ _ _ _))) ?_
  refine pe_go (pc := 24) rfl (s_aload_n rfl) ?_
  refine pe_go (pc := 25) rfl (s_getf (v := .ref (m + 8)) (gA0 hm (mB_0 _ _ _)) rfl) ?_
  refine pe_go (pc := 28) rfl (s_iload_n rfl) ?_
  refine pe_go (pc := 29) rfl (s_bipush (z := 40) rfl) ?_
  refine pe_go (pc := 31) rfl s_imul ?_
  refine pe_go (pc := 32) rfl (s_iload_n rfl) ?_
  refine pe_go (pc := 33) rfl s_iadd ?_
  refine pe_go (pc := 34) rfl (s_iload_n rfl) ?_
  refine pe_go (pc := 35) rfl (s_iast (n := 1600) (f := uZ (uZ S.ap ((a * 40) + b) (c : Int)) ((b * 40) + c) (a : Int)) (w' := pre ++ (mB m (S.u_ap (uZ (uZ (uZ S.ap ((a * 40) + b) (c : Int)) ((b * 40) + c) (a : Int)) ((c * 40) + a) (b : Int))) ++ post)) (gA hm (mB_ap _ _ _)) (k := (c * 40) + a) (by omega) (by omega) (by decide) (gS hm (mB_s_ap _ _ _ _))) ?_
  exact pe_ret rfl s_retv ⟨rfl, rfl⟩
theorem c_strip {pre post : pW} {m : Nat} (hm : pre.length = m) (S : St) {a b c : Nat} (ha : a < 40) (hb : b < 40) (hc : c < 40) : pRun 16 [.ref m, .int (iI (a : Int)), .int (iI (b : Int)), .int (iI (c : Int))] (pre ++ (mB m S ++ post)) none (pre ++ (mB m (S.strip a b c) ++ post)) := by
  refine qx_run ?_
  refine pc_run (lv := [(0, .ref m), (1, .int (iI (a : Int))), (2, .int (iI (b : Int))), (3, .int (iI (c : Int)))]) rfl ?_
  refine pe_go (pc := 0) rfl (s_aload_n rfl) ?_
  refine pe_go (pc := 1) rfl (s_getf (v := .ref (m + 8)) (gA0 hm (mB_0 _ _ _)) rfl) ?_
  refine pe_go (pc := 4) rfl (s_iload_n rfl) ?_
  refine pe_go (pc := 5) rfl (s_bipush (z := 40) rfl) ?_
  refine pe_go (pc := 7) rfl s_imul ?_
  refine pe_go (pc := 8) rfl (s_iload_n rfl) ?_
  refine pe_go (pc := 9) rfl s_iadd ?_
  refine pe_go (pc := 10) rfl (s_iconst (z := -1) rfl) ?_
  refine pe_go (pc := 11) rfl (s_iast (n := 1600) (f := S.ap) (w' := pre ++ (mB m (S.u_ap (uZ S.ap ((a * 40) + b) (-1))) ++ post)) (gA hm (mB_ap _ _ _)) (k := (a * 40) + b) (by omega) (by omega) (by decide) (gS hm (mB_s_ap _ _ _ _))) ?_
  refine pe_go (pc := 12) rfl (s_aload_n rfl) ?_
  refine pe_go (pc := 13) rfl (s_getf (v := .ref (m + 8)) (gA0 hm (mB_0 _ _ _)) rfl) ?_
  refine pe_go (pc := 16) rfl (s_iload_n rfl) ?_
  refine pe_go (pc := 17) rfl (s_bipush (z := 40) rfl) ?_
  refine pe_go (pc := 19) rfl s_imul ?_
  refine pe_go (pc := 20) rfl (s_iload_n rfl) ?_
  refine pe_go (pc := 21) rfl s_iadd ?_
  refine pe_go (pc := 22) rfl (s_iconst (z := -1) rfl) ?_
  refine pe_go (pc := 23) rfl (s_iast (n := 1600) (f := uZ S.ap ((a * 40) + b) (-1)) (w' := pre ++ (mB m (S.u_ap (uZ (uZ S.ap ((a * 40) + b) (-1)) ((b * 40) + c) (-1))) ++ post)) (gA hm (mB_ap _ _ _)) (k := (b * 40) + c) (by omega) (by omega) (by decide) (gS hm (mB_s_ap _ _ _ _))) ?_
  refine pe_go (pc := 24) rfl (s_aload_n rfl) ?_
  refine pe_go (pc := 25) rfl (s_getf (v := .ref (m + 8)) (gA0 hm (mB_0 _ _ _)) rfl) ?_
  refine pe_go (pc := 28) rfl (s_iload_n rfl) ?_
  refine pe_go (pc := 29) rfl (s_bipush (z := 40) rfl) ?_
  refine pe_go (pc := 31) rfl s_imul ?_
  refine pe_go (pc := 32) rfl (s_iload_n rfl) ?_
  refine pe_go (pc := 33) rfl s_iadd ?_
  refine pe_go (pc := 34) rfl (s_iconst (z := -1) rfl) ?_
  refine pe_go (pc := 35) rfl (s_iast (n := 1600) (f := uZ (uZ S.ap ((a * 40) + b) (-1)) ((b * 40) + c) (-1)) (w' := pre ++ (mB m (S.u_ap (uZ (uZ (uZ S.ap ((a * 40) + b) (-1)) ((b * 40) + c) (-1)) ((c * 40) + a) (-1))) ++ post)) (gA hm (mB_ap _ _ _)) (k := (c * 40) + a) (by omega) (by omega) (by decide) (gS hm (mB_s_ap _ _ _ _))) ?_
  exact pe_ret rfl s_retv ⟨rfl, rfl⟩
theorem c_await {pre post : pW} {m : Nat} (hm : pre.length = m) (S : St) {a b : Nat} (ha : a < 40) (hb : b < 40) (hq : okQ S) : pRun 18 [.ref m, .int (iI (a : Int)), .int (iI (b : Int))] (pre ++ (mB m S ++ post)) none (pre ++ (mB m (S.aw a b) ++ post)) := by
  refine qx_run ?_
  refine pc_run (lv := [(0, .ref m), (1, .int (iI (a : Int))), (2, .int (iI (b : Int)))]) rfl ?_
  refine pe_go (pc := 0) rfl (s_iload_n rfl) ?_
  refine pe_go (pc := 1) rfl (s_iload_n rfl) ?_
  by_cases c1 : (b : Int) ≤ (a : Int)
  · skip
    refine pe_go rfl (s_icmp_ge_t ⟨by omega, by omega⟩ ⟨by omega, by omega⟩ c1) ?_
    refine pe_go (pc := 9) rfl (s_iload_n rfl) ?_
    refine pe_go (pc := 10) rfl (s_istore_n (lv' := [(3, .int (iI (b : Int))), (0, .ref m), (1, .int (iI (a : Int))), (2, .int (iI (b : Int)))]) rfl) ?_
    refine pe_go (pc := 11) rfl (s_iload_n rfl) ?_
    refine pe_go (pc := 12) rfl (s_iload_n rfl) ?_
    refine pe_go rfl (s_icmp_ge_t ⟨by omega, by omega⟩ ⟨by omega, by omega⟩ c1) ?_
    refine pe_go (pc := 20) rfl (s_iload_n rfl) ?_
    refine pe_go (pc := 21) rfl (s_istore (lv' := [(4, .int (iI (a : Int))), (3, .int (iI (b : Int))), (0, .ref m), (1, .int (iI (a : Int))), (2, .int (iI (b : Int)))]) rfl) ?_
    refine pe_go (pc := 23) rfl (s_aload_n rfl) ?_
    refine pe_go (pc := 24) rfl (s_getf (v := .ref (m + 15)) (gA0 hm (mB_0 _ _ _)) rfl) ?_
    refine pe_go (pc := 27) rfl (s_iload_n rfl) ?_
    refine pe_go (pc := 28) rfl (s_lald (n := 40) (f := S.wa) (v := S.wa b) (gA hm (mB_wa _ _ _)) (k := b) (by omega) (by omega) (by decide) rfl) ?_
    refine pe_go (pc := 29) rfl (s_iload rfl) ?_
    refine pe_go (pc := 31) rfl s_lushr ?_
    refine pe_go (pc := 32) rfl s_lconst1 ?_
    refine pe_go (pc := 33) rfl (s_bit (k := a) (by omega) (by omega)) ?_
    refine pe_go (pc := 34) rfl s_lconst0 ?_
    refine pe_go (pc := 35) rfl s_cmpbit ?_
    by_cases b2 : bt (S.wa b) a = true
    · skip
      refine pe_go rfl (s_ifne_true b2) ?_
      refine pe_ret rfl s_retv ⟨rfl, ?_⟩
      first | rw [St.aw_lt (by omega)] | rw [St.aw_ge (by omega)]
      first | rw [St.aw0_no (Or.inl (by assumption))] | rw [St.aw0_no (Or.inr (by assumption))] | rw [St.aw0_yes (by assumption) (by assumption)]
      try rfl
    · skip
      refine pe_go rfl (s_ifne_false (eq_false_of_ne_true b2)) ?_
      refine pe_go (pc := 39) rfl (s_aload_n rfl) ?_
      refine pe_go (pc := 40) rfl (s_getf (v := .int (iI S.qn)) (gA0 hm (mB_0 _ _ _)) rfl) ?_
      refine pe_go (pc := 43) rfl (s_aload_n rfl) ?_
      refine pe_go (pc := 44) rfl (s_getf (v := .ref (m + 16)) (gA0 hm (mB_0 _ _ _)) rfl) ?_
      refine pe_go (pc := 47) rfl (s_alen (n := 800) (gA hm (mB_qu _ _ _)) rfl rfl) ?_
      by_cases c3 : 800 ≤ S.qn
      · skip
        refine pe_go rfl (s_icmp_ge_t ⟨by have := hq.1; omega, by have := hq.2; omega⟩ ⟨by decide, by decide⟩ c3) ?_
        refine pe_ret rfl s_retv ⟨rfl, ?_⟩
        first | rw [St.aw_lt (by omega)] | rw [St.aw_ge (by omega)]
        first | rw [St.aw0_no (Or.inl (by assumption))] | rw [St.aw0_no (Or.inr (by assumption))] | rw [St.aw0_yes (by assumption) (by assumption)]
        try rfl
      · skip
        refine pe_go rfl (s_icmp_ge_f ⟨by have := hq.1; omega, by have := hq.2; omega⟩ ⟨by decide, by decide⟩ c3) ?_
        refine pe_go (pc := 51) rfl (s_aload_n rfl) ?_
        refine pe_go (pc := 52) rfl (s_getf (v := .ref (m + 15)) (gA0 hm (mB_0 _ _ _)) rfl) ?_
        refine pe_go (pc := 55) rfl (s_iload_n rfl) ?_
        refine pe_go (pc := 56) rfl s_dup2 ?_
        refine pe_go (pc := 57) rfl (s_lald (n := 40) (f := S.wa) (v := S.wa b) (gA hm (mB_wa _ _ _)) (k := b) (by omega) (by omega) (by decide) rfl) ?_
        refine pe_go (pc := 58) rfl s_lconst1 ?_
        refine pe_go (pc := 59) rfl (s_iload rfl) ?_
        refine pe_go (pc := 61) rfl (s_bit1 (k := a) (by omega) (by omega)) ?_
        refine pe_go (pc := 62) rfl s_bset ?_
        refine pe_go (pc := 63) rfl (s_last (n := 40) (f := S.wa) (w' := pre ++ (mB m (S.u_wa (vp_updL S.wa b (bSet (S.wa b) a))) ++ post)) (gA hm (mB_wa _ _ _)) (k := b) (by omega) (by omega) (by decide) (gS hm (mB_s_wa _ _ _ _))) ?_
        refine pe_go (pc := 64) rfl (s_aload_n rfl) ?_
        refine pe_go (pc := 65) rfl (s_getf (v := .ref (m + 16)) (gA0 hm (mB_0 _ _ _)) rfl) ?_
        refine pe_go (pc := 68) rfl (s_aload_n rfl) ?_
        refine pe_go (pc := 69) rfl (s_getf (v := .int (iI S.qn)) (gA0 hm (mB_0 _ _ _)) rfl) ?_
        refine pe_go (pc := 72) rfl (s_iload_n rfl) ?_
        refine pe_go (pc := 73) rfl (s_bipush (z := 40) rfl) ?_
        refine pe_go (pc := 75) rfl s_imul ?_
        refine pe_go (pc := 76) rfl (s_iload rfl) ?_
        refine pe_go (pc := 78) rfl s_iadd ?_
        refine pe_go (pc := 79) rfl (s_iast (n := 800) (f := S.qu) (w' := pre ++ (mB m ((S.u_wa (vp_updL S.wa b (bSet (S.wa b) a))).u_qu (uZ S.qu S.qn.toNat (((b : Int) * 40) + (a : Int)))) ++ post)) (gA hm (mB_qu _ _ _)) (k := S.qn.toNat) (by have := hq.1; show S.qn = _; omega) (by have := hq.1; omega) (by decide) (gS hm (mB_s_qu _ _ _ _))) ?_
        refine pe_go (pc := 80) rfl (s_aload_n rfl) ?_
        refine pe_go (pc := 81) rfl (s_dup rfl) ?_
        refine pe_go (pc := 82) rfl (s_getf (v := .int (iI S.qn)) (gA0 hm (mB_0 _ _ _)) rfl) ?_
        refine pe_go (pc := 85) rfl (s_iconst (z := 1) rfl) ?_
        refine pe_go (pc := 86) rfl s_iadd ?_
        refine pe_go (pc := 87) rfl (s_putf (w' := pre ++ (mB m (((S.u_wa (vp_updL S.wa b (bSet (S.wa b) a))).u_qu (uZ S.qu S.qn.toNat (((b : Int) * 40) + (a : Int)))).u_qn (S.qn + 1)) ++ post)) (gA0 hm (mB_0 _ _ _)) (Nat.le_of_ble_eq_true rfl) rfl (gS0 hm (mB_s_qn _ _ _ _))) ?_
        refine pe_ret rfl s_retv ⟨rfl, ?_⟩
        first | rw [St.aw_lt (by omega)] | rw [St.aw_ge (by omega)]
        first | rw [St.aw0_no (Or.inl (by assumption))] | rw [St.aw0_no (Or.inr (by assumption))] | rw [St.aw0_yes (by assumption) (by assumption)]
        try rfl
  · skip
    refine pe_go rfl (s_icmp_ge_f ⟨by omega, by omega⟩ ⟨by omega, by omega⟩ c1) ?_
    refine pe_go (pc := 5) rfl (s_iload_n rfl) ?_
    refine pe_go (pc := 6) rfl s_goto ?_
    refine pe_go (pc := 10) rfl (s_istore_n (lv' := [(3, .int (iI (a : Int))), (0, .ref m), (1, .int (iI (a : Int))), (2, .int (iI (b : Int)))]) rfl) ?_
    refine pe_go (pc := 11) rfl (s_iload_n rfl) ?_
    refine pe_go (pc := 12) rfl (s_iload_n rfl) ?_
    refine pe_go rfl (s_icmp_ge_f ⟨by omega, by omega⟩ ⟨by omega, by omega⟩ c1) ?_
    refine pe_go (pc := 16) rfl (s_iload_n rfl) ?_
    refine pe_go (pc := 17) rfl s_goto ?_
    refine pe_go (pc := 21) rfl (s_istore (lv' := [(4, .int (iI (b : Int))), (3, .int (iI (a : Int))), (0, .ref m), (1, .int (iI (a : Int))), (2, .int (iI (b : Int)))]) rfl) ?_
    refine pe_go (pc := 23) rfl (s_aload_n rfl) ?_
    refine pe_go (pc := 24) rfl (s_getf (v := .ref (m + 15)) (gA0 hm (mB_0 _ _ _)) rfl) ?_
    refine pe_go (pc := 27) rfl (s_iload_n rfl) ?_
    refine pe_go (pc := 28) rfl (s_lald (n := 40) (f := S.wa) (v := S.wa a) (gA hm (mB_wa _ _ _)) (k := a) (by omega) (by omega) (by decide) rfl) ?_
    refine pe_go (pc := 29) rfl (s_iload rfl) ?_
    refine pe_go (pc := 31) rfl s_lushr ?_
    refine pe_go (pc := 32) rfl s_lconst1 ?_
    refine pe_go (pc := 33) rfl (s_bit (k := b) (by omega) (by omega)) ?_
    refine pe_go (pc := 34) rfl s_lconst0 ?_
    refine pe_go (pc := 35) rfl s_cmpbit ?_
    by_cases b4 : bt (S.wa a) b = true
    · skip
      refine pe_go rfl (s_ifne_true b4) ?_
      refine pe_ret rfl s_retv ⟨rfl, ?_⟩
      first | rw [St.aw_lt (by omega)] | rw [St.aw_ge (by omega)]
      first | rw [St.aw0_no (Or.inl (by assumption))] | rw [St.aw0_no (Or.inr (by assumption))] | rw [St.aw0_yes (by assumption) (by assumption)]
      try rfl
    · skip
      refine pe_go rfl (s_ifne_false (eq_false_of_ne_true b4)) ?_
      refine pe_go (pc := 39) rfl (s_aload_n rfl) ?_
      refine pe_go (pc := 40) rfl (s_getf (v := .int (iI S.qn)) (gA0 hm (mB_0 _ _ _)) rfl) ?_
      refine pe_go (pc := 43) rfl (s_aload_n rfl) ?_
      refine pe_go (pc := 44) rfl (s_getf (v := .ref (m + 16)) (gA0 hm (mB_0 _ _ _)) rfl) ?_
      refine pe_go (pc := 47) rfl (s_alen (n := 800) (gA hm (mB_qu _ _ _)) rfl rfl) ?_
      by_cases c5 : 800 ≤ S.qn
      · skip
        refine pe_go rfl (s_icmp_ge_t ⟨by have := hq.1; omega, by have := hq.2; omega⟩ ⟨by decide, by decide⟩ c5) ?_
        refine pe_ret rfl s_retv ⟨rfl, ?_⟩
        first | rw [St.aw_lt (by omega)] | rw [St.aw_ge (by omega)]
        first | rw [St.aw0_no (Or.inl (by assumption))] | rw [St.aw0_no (Or.inr (by assumption))] | rw [St.aw0_yes (by assumption) (by assumption)]
        try rfl
      · skip
        refine pe_go rfl (s_icmp_ge_f ⟨by have := hq.1; omega, by have := hq.2; omega⟩ ⟨by decide, by decide⟩ c5) ?_
        refine pe_go (pc := 51) rfl (s_aload_n rfl) ?_
        refine pe_go (pc := 52) rfl (s_getf (v := .ref (m + 15)) (gA0 hm (mB_0 _ _ _)) rfl) ?_
        refine pe_go (pc := 55) rfl (s_iload_n rfl) ?_
        refine pe_go (pc := 56) rfl s_dup2 ?_
        refine pe_go (pc := 57) rfl (s_lald (n := 40) (f := S.wa) (v := S.wa a) (gA hm (mB_wa _ _ _)) (k := a) (by omega) (by omega) (by decide) rfl) ?_
        refine pe_go (pc := 58) rfl s_lconst1 ?_
        refine pe_go (pc := 59) rfl (s_iload rfl) ?_
        refine pe_go (pc := 61) rfl (s_bit1 (k := b) (by omega) (by omega)) ?_
        refine pe_go (pc := 62) rfl s_bset ?_
        refine pe_go (pc := 63) rfl (s_last (n := 40) (f := S.wa) (w' := pre ++ (mB m (S.u_wa (vp_updL S.wa a (bSet (S.wa a) b))) ++ post)) (gA hm (mB_wa _ _ _)) (k := a) (by omega) (by omega) (by decide) (gS hm (mB_s_wa _ _ _ _))) ?_
        refine pe_go (pc := 64) rfl (s_aload_n rfl) ?_
        refine pe_go (pc := 65) rfl (s_getf (v := .ref (m + 16)) (gA0 hm (mB_0 _ _ _)) rfl) ?_
        refine pe_go (pc := 68) rfl (s_aload_n rfl) ?_
        refine pe_go (pc := 69) rfl (s_getf (v := .int (iI S.qn)) (gA0 hm (mB_0 _ _ _)) rfl) ?_
        refine pe_go (pc := 72) rfl (s_iload_n rfl) ?_
        refine pe_go (pc := 73) rfl (s_bipush (z := 40) rfl) ?_
        refine pe_go (pc := 75) rfl s_imul ?_
        refine pe_go (pc := 76) rfl (s_iload rfl) ?_
        refine pe_go (pc := 78) rfl s_iadd ?_
        refine pe_go (pc := 79) rfl (s_iast (n := 800) (f := S.qu) (w' := pre ++ (mB m ((S.u_wa (vp_updL S.wa a (bSet (S.wa a) b))).u_qu (uZ S.qu S.qn.toNat (((a : Int) * 40) + (b : Int)))) ++ post)) (gA hm (mB_qu _ _ _)) (k := S.qn.toNat) (by have := hq.1; show S.qn = _; omega) (by have := hq.1; omega) (by decide) (gS hm (mB_s_qu _ _ _ _))) ?_
        refine pe_go (pc := 80) rfl (s_aload_n rfl) ?_
        refine pe_go (pc := 81) rfl (s_dup rfl) ?_
        refine pe_go (pc := 82) rfl (s_getf (v := .int (iI S.qn)) (gA0 hm (mB_0 _ _ _)) rfl) ?_
        refine pe_go (pc := 85) rfl (s_iconst (z := 1) rfl) ?_
        refine pe_go (pc := 86) rfl s_iadd ?_
        refine pe_go (pc := 87) rfl (s_putf (w' := pre ++ (mB m (((S.u_wa (vp_updL S.wa a (bSet (S.wa a) b))).u_qu (uZ S.qu S.qn.toNat (((a : Int) * 40) + (b : Int)))).u_qn (S.qn + 1)) ++ post)) (gA0 hm (mB_0 _ _ _)) (Nat.le_of_ble_eq_true rfl) rfl (gS0 hm (mB_s_qn _ _ _ _))) ?_
        refine pe_ret rfl s_retv ⟨rfl, ?_⟩
        first | rw [St.aw_lt (by omega)] | rw [St.aw_ge (by omega)]
        first | rw [St.aw0_no (Or.inl (by assumption))] | rw [St.aw0_no (Or.inr (by assumption))] | rw [St.aw0_yes (by assumption) (by assumption)]
        try rfl
theorem c_put {pre post : pW} {m : Nat} (hm : pre.length = m) (S : St) {a b c : Nat} (ha : a < 40) (hb : b < 40) (hc : c < 40) (hq : okQ S) : pRun 17 [.ref m, .int (iI (a : Int)), .int (iI (b : Int)), .int (iI (c : Int))] (pre ++ (mB m S ++ post)) none (pre ++ (mB m (S.put a b c) ++ post)) := by
  refine qx_run ?_
  refine pc_run (lv := [(0, .ref m), (1, .int (iI (a : Int))), (2, .int (iI (b : Int))), (3, .int (iI (c : Int)))]) rfl ?_
  refine pe_go (pc := 0) rfl (s_aload_n rfl) ?_
  refine pe_go (pc := 1) rfl (s_iload_n rfl) ?_
  refine pe_go (pc := 2) rfl (s_iload_n rfl) ?_
  refine pe_go (pc := 3) rfl (s_iload_n rfl) ?_
  refine pe_call rfl (s_invV rfl (gA0 hm (mB_0 _ _ _)) rfl rfl) (c_lay hm S ha hb hc) ?_
  refine pe_go (pc := 7) rfl (s_aload_n rfl) ?_
  refine pe_go (pc := 8) rfl (s_iload_n rfl) ?_
  refine pe_go (pc := 9) rfl (s_iload_n rfl) ?_
  refine pe_call rfl (s_invV rfl (gA0 hm (mB_0 _ _ _)) rfl rfl) (c_await hm (S.lay a b c) ha hb hq) ?_
  refine pe_go (pc := 13) rfl (s_aload_n rfl) ?_
  refine pe_go (pc := 14) rfl (s_iload_n rfl) ?_
  refine pe_go (pc := 15) rfl (s_iload_n rfl) ?_
  refine pe_call rfl (s_invV rfl (gA0 hm (mB_0 _ _ _)) rfl rfl) (c_await hm ((S.lay a b c).aw a b) hb hc (St.aw_qn _ _ _ hq)) ?_
  refine pe_go (pc := 19) rfl (s_aload_n rfl) ?_
  refine pe_go (pc := 20) rfl (s_iload_n rfl) ?_
  refine pe_go (pc := 21) rfl (s_iload_n rfl) ?_
  refine pe_call rfl (s_invV rfl (gA0 hm (mB_0 _ _ _)) rfl rfl) (c_await hm (((S.lay a b c).aw a b).aw b c) hc ha (St.aw_qn _ _ _ (St.aw_qn _ _ _ hq))) ?_
  exact pe_ret rfl s_retv ⟨rfl, rfl⟩
/-- the flip of the edge a b, with c and d behind it -/
def St.flip (S : St) (a b c d : Nat) : St := ((S.u_ap (uZ (uZ S.ap (a * 40 + b) (-1)) (b * 40 + a) (-1))).put a d c).put d b c
theorem c_flip {pre post : pW} {m : Nat} (hm : pre.length = m) (S : St) {a b c d : Nat} (ha : a < 40) (hb : b < 40) (hc : c < 40) (hd : d < 40) (hac : S.ap (a * 40 + b) = (c : Int)) (had : S.ap (b * 40 + a) = (d : Int)) (hq : okQ S) : pRun 20 [.ref m, .int (iI (a : Int)), .int (iI (b : Int))] (pre ++ (mB m S ++ post)) none (pre ++ (mB m (S.flip a b c d) ++ post)) := by
  refine qx_run ?_
  refine pc_run (lv := [(0, .ref m), (1, .int (iI (a : Int))), (2, .int (iI (b : Int)))]) rfl ?_
  refine pe_go (pc := 0) rfl (s_aload_n rfl) ?_
  refine pe_go (pc := 1) rfl (s_getf (v := .ref (m + 8)) (gA0 hm (mB_0 _ _ _)) rfl) ?_
  refine pe_go (pc := 4) rfl (s_iload_n rfl) ?_
  refine pe_go (pc := 5) rfl (s_bipush (z := 40) rfl) ?_
  refine pe_go (pc := 7) rfl s_imul ?_
  refine pe_go (pc := 8) rfl (s_iload_n rfl) ?_
  refine pe_go (pc := 9) rfl s_iadd ?_
  refine pe_go (pc := 10) rfl (s_iald (n := 1600) (f := S.ap) (v := (c : Int)) (gA hm (mB_ap _ _ _)) (k := (a * 40) + b) (by omega) (by omega) (by decide) hac) ?_
  refine pe_go (pc := 11) rfl (s_istore_n (lv' := [(3, .int (iI (c : Int))), (0, .ref m), (1, .int (iI (a : Int))), (2, .int (iI (b : Int)))]) rfl) ?_
  refine pe_go (pc := 12) rfl (s_aload_n rfl) ?_
  refine pe_go (pc := 13) rfl (s_getf (v := .ref (m + 8)) (gA0 hm (mB_0 _ _ _)) rfl) ?_
  refine pe_go (pc := 16) rfl (s_iload_n rfl) ?_
  refine pe_go (pc := 17) rfl (s_bipush (z := 40) rfl) ?_
  refine pe_go (pc := 19) rfl s_imul ?_
  refine pe_go (pc := 20) rfl (s_iload_n rfl) ?_
  refine pe_go (pc := 21) rfl s_iadd ?_
  refine pe_go (pc := 22) rfl (s_iald (n := 1600) (f := S.ap) (v := (d : Int)) (gA hm (mB_ap _ _ _)) (k := (b * 40) + a) (by omega) (by omega) (by decide) had) ?_
  refine pe_go (pc := 23) rfl (s_istore (lv' := [(4, .int (iI (d : Int))), (3, .int (iI (c : Int))), (0, .ref m), (1, .int (iI (a : Int))), (2, .int (iI (b : Int)))]) rfl) ?_
  refine pe_go (pc := 25) rfl (s_iload_n rfl) ?_
  refine pe_go (pc := 26) rfl (s_iconst (z := -1) rfl) ?_
  refine pe_go rfl (s_icmp_eq_f ⟨by omega, by omega⟩ ⟨by decide, by decide⟩ (by omega)) ?_
  refine pe_go (pc := 30) rfl (s_iload rfl) ?_
  refine pe_go (pc := 32) rfl (s_iconst (z := -1) rfl) ?_
  refine pe_go rfl (s_icmp_ne_t ⟨by omega, by omega⟩ ⟨by decide, by decide⟩ (by omega)) ?_
  refine pe_go (pc := 37) rfl (s_aload_n rfl) ?_
  refine pe_go (pc := 38) rfl (s_getf (v := .ref (m + 8)) (gA0 hm (mB_0 _ _ _)) rfl) ?_
  refine pe_go (pc := 41) rfl (s_iload_n rfl) ?_
  refine pe_go (pc := 42) rfl (s_bipush (z := 40) rfl) ?_
  refine pe_go (pc := 44) rfl s_imul ?_
  refine pe_go (pc := 45) rfl (s_iload_n rfl) ?_
  refine pe_go (pc := 46) rfl s_iadd ?_
  refine pe_go (pc := 47) rfl (s_iconst (z := -1) rfl) ?_
  refine pe_go (pc := 48) rfl (s_iast (n := 1600) (f := S.ap) (w' := pre ++ (mB m (S.u_ap (uZ S.ap ((a * 40) + b) (-1))) ++ post)) (gA hm (mB_ap _ _ _)) (k := (a * 40) + b) (by omega) (by omega) (by decide) (gS hm (mB_s_ap _ _ _ _))) ?_
  refine pe_go (pc := 49) rfl (s_aload_n rfl) ?_
  refine pe_go (pc := 50) rfl (s_getf (v := .ref (m + 8)) (gA0 hm (mB_0 _ _ _)) rfl) ?_
  refine pe_go (pc := 53) rfl (s_iload_n rfl) ?_
  refine pe_go (pc := 54) rfl (s_bipush (z := 40) rfl) ?_
  refine pe_go (pc := 56) rfl s_imul ?_
  refine pe_go (pc := 57) rfl (s_iload_n rfl) ?_
  refine pe_go (pc := 58) rfl s_iadd ?_
  refine pe_go (pc := 59) rfl (s_iconst (z := -1) rfl) ?_
  refine pe_go (pc := 60) rfl (s_iast (n := 1600) (f := uZ S.ap ((a * 40) + b) (-1)) (w' := pre ++ (mB m (S.u_ap (uZ (uZ S.ap ((a * 40) + b) (-1)) ((b * 40) + a) (-1))) ++ post)) (gA hm (mB_ap _ _ _)) (k := (b * 40) + a) (by omega) (by omega) (by decide) (gS hm (mB_s_ap _ _ _ _))) ?_
  refine pe_go (pc := 61) rfl (s_aload_n rfl) ?_
  refine pe_go (pc := 62) rfl (s_iload_n rfl) ?_
  refine pe_go (pc := 63) rfl (s_iload rfl) ?_
  refine pe_go (pc := 65) rfl (s_iload_n rfl) ?_
  refine pe_call rfl (s_invV rfl (gA0 hm (mB_0 _ _ _)) rfl rfl) (c_put hm (S.u_ap (uZ (uZ S.ap (a * 40 + b) (-1)) (b * 40 + a) (-1))) ha hd hc hq) ?_
  refine pe_go (pc := 69) rfl (s_aload_n rfl) ?_
  refine pe_go (pc := 70) rfl (s_iload rfl) ?_
  refine pe_go (pc := 72) rfl (s_iload_n rfl) ?_
  refine pe_go (pc := 73) rfl (s_iload_n rfl) ?_
  refine pe_call rfl (s_invV rfl (gA0 hm (mB_0 _ _ _)) rfl rfl) (c_put hm ((S.u_ap (uZ (uZ S.ap (a * 40 + b) (-1)) (b * 40 + a) (-1))).put a d c) hd hb hc (St.put_qn _ _ _ _ hq)) ?_
  exact pe_ret rfl s_retv ⟨rfl, rfl⟩
theorem c_isInner {pre post : pW} {m : Nat} (hm : pre.length = m) (S : St) {a b : Nat} (ha : a < 40) (hb : b < 40) (h1 : sm (S.ap (a * 40 + b))) (h2 : sm (S.ap (b * 40 + a))) : pRun 21 [.ref m, .int (iI (a : Int)), .int (iI (b : Int))] (pre ++ (mB m S ++ post)) (some (.int (bI (decide (S.ap (a * 40 + b) ≠ -1 ∧ S.ap (b * 40 + a) ≠ -1))))) (pre ++ (mB m S ++ post)) := by
  refine qx_run ?_
  refine pc_run (lv := [(0, .ref m), (1, .int (iI (a : Int))), (2, .int (iI (b : Int)))]) rfl ?_
  refine pe_go (pc := 0) rfl (s_aload_n rfl) ?_
  refine pe_go (pc := 1) rfl (s_getf (v := .ref (m + 8)) (gA0 hm (mB_0 _ _ _)) rfl) ?_
  refine pe_go (pc := 4) rfl (s_iload_n rfl) ?_
  refine pe_go (pc := 5) rfl (s_bipush (z := 40) rfl) ?_
  refine pe_go (pc := 7) rfl s_imul ?_
  refine pe_go (pc := 8) rfl (s_iload_n rfl) ?_
  refine pe_go (pc := 9) rfl s_iadd ?_
  refine pe_go (pc := 10) rfl (s_iald (n := 1600) (f := S.ap) (v := S.ap ((a * 40) + b)) (gA hm (mB_ap _ _ _)) (k := (a * 40) + b) (by omega) (by omega) (by decide) rfl) ?_
  refine pe_go (pc := 11) rfl (s_iconst (z := -1) rfl) ?_
  by_cases c1 : (S.ap ((a * 40) + b)) = (-1)
  · skip
    refine pe_go rfl (s_icmp_eq_t h1 ⟨by decide, by decide⟩ c1) ?_
    refine pe_go (pc := 34) rfl (s_iconst (z := 0) rfl) ?_
    exact pe_ret rfl s_ret0 ⟨by rw [decide_eq_false (show ¬ (S.ap (a * 40 + b) ≠ -1 ∧ S.ap (b * 40 + a) ≠ -1) from (by rintro ⟨z1, z2⟩; first | exact absurd (by assumption) z1 | exact absurd (by assumption) z2))], rfl⟩
  · skip
    refine pe_go rfl (s_icmp_eq_f h1 ⟨by decide, by decide⟩ c1) ?_
    refine pe_go (pc := 15) rfl (s_aload_n rfl) ?_
    refine pe_go (pc := 16) rfl (s_getf (v := .ref (m + 8)) (gA0 hm (mB_0 _ _ _)) rfl) ?_
    refine pe_go (pc := 19) rfl (s_iload_n rfl) ?_
    refine pe_go (pc := 20) rfl (s_bipush (z := 40) rfl) ?_
    refine pe_go (pc := 22) rfl s_imul ?_
    refine pe_go (pc := 23) rfl (s_iload_n rfl) ?_
    refine pe_go (pc := 24) rfl s_iadd ?_
    refine pe_go (pc := 25) rfl (s_iald (n := 1600) (f := S.ap) (v := S.ap ((b * 40) + a)) (gA hm (mB_ap _ _ _)) (k := (b * 40) + a) (by omega) (by omega) (by decide) rfl) ?_
    refine pe_go (pc := 26) rfl (s_iconst (z := -1) rfl) ?_
    by_cases c2 : (S.ap ((b * 40) + a)) = (-1)
    · skip
      refine pe_go rfl (s_icmp_eq_t h2 ⟨by decide, by decide⟩ c2) ?_
      refine pe_go (pc := 34) rfl (s_iconst (z := 0) rfl) ?_
      exact pe_ret rfl s_ret0 ⟨by rw [decide_eq_false (show ¬ (S.ap (a * 40 + b) ≠ -1 ∧ S.ap (b * 40 + a) ≠ -1) from (by rintro ⟨z1, z2⟩; first | exact absurd (by assumption) z1 | exact absurd (by assumption) z2))], rfl⟩
    · skip
      refine pe_go rfl (s_icmp_eq_f h2 ⟨by decide, by decide⟩ c2) ?_
      refine pe_go (pc := 30) rfl (s_iconst (z := 1) rfl) ?_
      refine pe_go (pc := 31) rfl s_goto ?_
      exact pe_ret rfl s_ret1 ⟨by rw [decide_eq_true (show S.ap (a * 40 + b) ≠ -1 ∧ S.ap (b * 40 + a) ≠ -1 from ⟨by assumption, by assumption⟩)], rfl⟩
/-- above 0: the place, so lifted, lies under the plane through a, b and c -/
def St.und (S : St) (a b c : Nat) (x y k : Int) : Int := (S.li a - k) * ((S.xs b - x) * (S.ys c - y) - (S.ys b - y) * (S.xs c - x)) + (S.li b - k) * ((S.xs c - x) * (S.ys a - y) - (S.ys c - y) * (S.xs a - x)) + (S.li c - k) * ((S.xs a - x) * (S.ys b - y) - (S.ys a - y) * (S.xs b - x))
/-- lifts are no higher than twice an area -/
def St.liB (S : St) : Prop := ∀ j : Nat, j < 40 → 0 ≤ S.li j ∧ S.li j ≤ 8000000
theorem cross_b {u v x y : Int} (h1 : -2000 ≤ u ∧ u ≤ 2000) (h2 : -2000 ≤ v ∧ v ≤ 2000) (h3 : -2000 ≤ x ∧ x ≤ 2000) (h4 : -2000 ≤ y ∧ y ≤ 2000) : -8000000 ≤ u * y - v * x ∧ u * y - v * x ≤ 8000000 := by
  have e1 := mul_b (x := u) (y := y) (a := 2000) (b := 2000) h1.1 h1.2 h4.1 h4.2
  have e2 := mul_b (x := v) (y := x) (a := 2000) (b := 2000) h2.1 h2.2 h3.1 h3.2
  omega
theorem St.und_b {S : St} (h : S.inB) (hl : S.liB) {a b c : Nat} {x y k : Int} (ha : a < 40) (hb : b < 40) (hc : c < 40) (hq : inSq x y) (hk : 0 ≤ k ∧ k ≤ 8000000) : sl (S.und a b c x y k) := by
  obtain ⟨a1, a2, a3, a4⟩ := h a ha
  obtain ⟨b1, b2, b3, b4⟩ := h b hb
  obtain ⟨c1, c2, c3, c4⟩ := h c hc
  obtain ⟨q1, q2, q3, q4⟩ := hq
  have e1 := cross_b (u := S.xs b - x) (v := S.ys b - y) (x := S.xs c - x) (y := S.ys c - y) (by omega) (by omega) (by omega) (by omega)
  have e2 := cross_b (u := S.xs c - x) (v := S.ys c - y) (x := S.xs a - x) (y := S.ys a - y) (by omega) (by omega) (by omega) (by omega)
  have e3 := cross_b (u := S.xs a - x) (v := S.ys a - y) (x := S.xs b - x) (y := S.ys b - y) (by omega) (by omega) (by omega) (by omega)
  have l1 := hl a ha
  have l2 := hl b hb
  have l3 := hl c hc
  have f1 := mul_b (x := S.li a - k) (a := 8000000) (b := 8000000) (by omega) (by omega) e1.1 e1.2
  have f2 := mul_b (x := S.li b - k) (a := 8000000) (b := 8000000) (by omega) (by omega) e2.1 e2.2
  have f3 := mul_b (x := S.li c - k) (a := 8000000) (b := 8000000) (by omega) (by omega) e3.1 e3.2
  unfold St.und
  constructor <;> omega
theorem c_under {pre post : pW} {m : Nat} (hm : pre.length = m) (S : St) {a b c : Nat} (ha : a < 40) (hb : b < 40) (hc : c < 40) {x y k : Int} (h : S.inB) (hq : inSq x y) : pRun 25 [.ref m, .int (iI (a : Int)), .int (iI (b : Int)), .int (iI (c : Int)), .int (iI x), .int (iI y), .long (lI k)] (pre ++ (mB m S ++ post)) (some (.long (lI (S.und a b c x y k)))) (pre ++ (mB m S ++ post)) := by
  refine qx_run ?_
  refine pc_run (lv := [(0, .ref m), (1, .int (iI (a : Int))), (2, .int (iI (b : Int))), (3, .int (iI (c : Int))), (4, .int (iI x)), (5, .int (iI y)), (6, .long (lI k))]) rfl ?_
  have b_a := h a ha
  have b_b := h b hb
  have b_c := h c hc
  have b_q := hq
  refine pe_go (pc := 0) rfl (s_aload_n rfl) ?_
  refine pe_go (pc := 1) rfl (s_getf (v := .ref (m + 1)) (gA0 hm (mB_0 _ _ _)) rfl) ?_
  refine pe_go (pc := 4) rfl (s_getf (v := .ref (m + 2)) (gA hm (mB_1 _ _ _)) rfl) ?_
  refine pe_go (pc := 7) rfl (s_iload_n rfl) ?_
  refine pe_go (pc := 8) rfl (s_iald (n := 40) (f := S.xs) (v := S.xs a) (gA hm (mB_xs _ _ _)) (k := a) (by omega) (by omega) (by decide) rfl) ?_
  refine pe_go (pc := 9) rfl (s_iload rfl) ?_
  refine pe_go (pc := 11) rfl s_isub ?_
  refine pe_go (pc := 12) rfl (s_i2l ⟨by omega, by omega⟩) ?_
  refine pe_go (pc := 13) rfl (s_lstore (lv' := [(8, .long (lI ((S.xs a) - x))), (0, .ref m), (1, .int (iI (a : Int))), (2, .int (iI (b : Int))), (3, .int (iI (c : Int))), (4, .int (iI x)), (5, .int (iI y)), (6, .long (lI k))]) rfl) ?_
  refine pe_go (pc := 15) rfl (s_aload_n rfl) ?_
  refine pe_go (pc := 16) rfl (s_getf (v := .ref (m + 1)) (gA0 hm (mB_0 _ _ _)) rfl) ?_
  refine pe_go (pc := 19) rfl (s_getf (v := .ref (m + 3)) (gA hm (mB_1 _ _ _)) rfl) ?_
  refine pe_go (pc := 22) rfl (s_iload_n rfl) ?_
  refine pe_go (pc := 23) rfl (s_iald (n := 40) (f := S.ys) (v := S.ys a) (gA hm (mB_ys _ _ _)) (k := a) (by omega) (by omega) (by decide) rfl) ?_
  refine pe_go (pc := 24) rfl (s_iload rfl) ?_
  refine pe_go (pc := 26) rfl s_isub ?_
  refine pe_go (pc := 27) rfl (s_i2l ⟨by omega, by omega⟩) ?_
  refine pe_go (pc := 28) rfl (s_lstore (lv' := [(10, .long (lI ((S.ys a) - y))), (8, .long (lI ((S.xs a) - x))), (0, .ref m), (1, .int (iI (a : Int))), (2, .int (iI (b : Int))), (3, .int (iI (c : Int))), (4, .int (iI x)), (5, .int (iI y)), (6, .long (lI k))]) rfl) ?_
  refine pe_go (pc := 30) rfl (s_aload_n rfl) ?_
  refine pe_go (pc := 31) rfl (s_getf (v := .ref (m + 1)) (gA0 hm (mB_0 _ _ _)) rfl) ?_
  refine pe_go (pc := 34) rfl (s_getf (v := .ref (m + 2)) (gA hm (mB_1 _ _ _)) rfl) ?_
  refine pe_go (pc := 37) rfl (s_iload_n rfl) ?_
  refine pe_go (pc := 38) rfl (s_iald (n := 40) (f := S.xs) (v := S.xs b) (gA hm (mB_xs _ _ _)) (k := b) (by omega) (by omega) (by decide) rfl) ?_
  refine pe_go (pc := 39) rfl (s_iload rfl) ?_
  refine pe_go (pc := 41) rfl s_isub ?_
  refine pe_go (pc := 42) rfl (s_i2l ⟨by omega, by omega⟩) ?_
  refine pe_go (pc := 43) rfl (s_lstore (lv' := [(12, .long (lI ((S.xs b) - x))), (10, .long (lI ((S.ys a) - y))), (8, .long (lI ((S.xs a) - x))), (0, .ref m), (1, .int (iI (a : Int))), (2, .int (iI (b : Int))), (3, .int (iI (c : Int))), (4, .int (iI x)), (5, .int (iI y)), (6, .long (lI k))]) rfl) ?_
  refine pe_go (pc := 45) rfl (s_aload_n rfl) ?_
  refine pe_go (pc := 46) rfl (s_getf (v := .ref (m + 1)) (gA0 hm (mB_0 _ _ _)) rfl) ?_
  refine pe_go (pc := 49) rfl (s_getf (v := .ref (m + 3)) (gA hm (mB_1 _ _ _)) rfl) ?_
  refine pe_go (pc := 52) rfl (s_iload_n rfl) ?_
  refine pe_go (pc := 53) rfl (s_iald (n := 40) (f := S.ys) (v := S.ys b) (gA hm (mB_ys _ _ _)) (k := b) (by omega) (by omega) (by decide) rfl) ?_
  refine pe_go (pc := 54) rfl (s_iload rfl) ?_
  refine pe_go (pc := 56) rfl s_isub ?_
  refine pe_go (pc := 57) rfl (s_i2l ⟨by omega, by omega⟩) ?_
  refine pe_go (pc := 58) rfl (s_lstore (lv' := [(14, .long (lI ((S.ys b) - y))), (12, .long (lI ((S.xs b) - x))), (10, .long (lI ((S.ys a) - y))), (8, .long (lI ((S.xs a) - x))), (0, .ref m), (1, .int (iI (a : Int))), (2, .int (iI (b : Int))), (3, .int (iI (c : Int))), (4, .int (iI x)), (5, .int (iI y)), (6, .long (lI k))]) rfl) ?_
  refine pe_go (pc := 60) rfl (s_aload_n rfl) ?_
  refine pe_go (pc := 61) rfl (s_getf (v := .ref (m + 1)) (gA0 hm (mB_0 _ _ _)) rfl) ?_
  refine pe_go (pc := 64) rfl (s_getf (v := .ref (m + 2)) (gA hm (mB_1 _ _ _)) rfl) ?_
  refine pe_go (pc := 67) rfl (s_iload_n rfl) ?_
  refine pe_go (pc := 68) rfl (s_iald (n := 40) (f := S.xs) (v := S.xs c) (gA hm (mB_xs _ _ _)) (k := c) (by omega) (by omega) (by decide) rfl) ?_
  refine pe_go (pc := 69) rfl (s_iload rfl) ?_
  refine pe_go (pc := 71) rfl s_isub ?_
  refine pe_go (pc := 72) rfl (s_i2l ⟨by omega, by omega⟩) ?_
  refine pe_go (pc := 73) rfl (s_lstore (lv' := [(16, .long (lI ((S.xs c) - x))), (14, .long (lI ((S.ys b) - y))), (12, .long (lI ((S.xs b) - x))), (10, .long (lI ((S.ys a) - y))), (8, .long (lI ((S.xs a) - x))), (0, .ref m), (1, .int (iI (a : Int))), (2, .int (iI (b : Int))), (3, .int (iI (c : Int))), (4, .int (iI x)), (5, .int (iI y)), (6, .long (lI k))]) rfl) ?_
  refine pe_go (pc := 75) rfl (s_aload_n rfl) ?_
  refine pe_go (pc := 76) rfl (s_getf (v := .ref (m + 1)) (gA0 hm (mB_0 _ _ _)) rfl) ?_
  refine pe_go (pc := 79) rfl (s_getf (v := .ref (m + 3)) (gA hm (mB_1 _ _ _)) rfl) ?_
  refine pe_go (pc := 82) rfl (s_iload_n rfl) ?_
  refine pe_go (pc := 83) rfl (s_iald (n := 40) (f := S.ys) (v := S.ys c) (gA hm (mB_ys _ _ _)) (k := c) (by omega) (by omega) (by decide) rfl) ?_
  refine pe_go (pc := 84) rfl (s_iload rfl) ?_
  refine pe_go (pc := 86) rfl s_isub ?_
  refine pe_go (pc := 87) rfl (s_i2l ⟨by omega, by omega⟩) ?_
  refine pe_go (pc := 88) rfl (s_lstore (lv' := [(18, .long (lI ((S.ys c) - y))), (16, .long (lI ((S.xs c) - x))), (14, .long (lI ((S.ys b) - y))), (12, .long (lI ((S.xs b) - x))), (10, .long (lI ((S.ys a) - y))), (8, .long (lI ((S.xs a) - x))), (0, .ref m), (1, .int (iI (a : Int))), (2, .int (iI (b : Int))), (3, .int (iI (c : Int))), (4, .int (iI x)), (5, .int (iI y)), (6, .long (lI k))]) rfl) ?_
  refine pe_go (pc := 90) rfl (s_aload_n rfl) ?_
  refine pe_go (pc := 91) rfl (s_getf (v := .ref (m + 14)) (gA0 hm (mB_0 _ _ _)) rfl) ?_
  refine pe_go (pc := 94) rfl (s_iload_n rfl) ?_
  refine pe_go (pc := 95) rfl (s_lald (n := 40) (f := fun j => lI (S.li j)) (gA hm (mB_li _ _ _)) (k := a) (by omega) (by omega) (by decide) rfl) ?_
  refine pe_go (pc := 96) rfl (s_lload rfl) ?_
  refine pe_go (pc := 98) rfl s_lsub ?_
  refine pe_go (pc := 99) rfl (s_lload rfl) ?_
  refine pe_go (pc := 101) rfl (s_lload rfl) ?_
  refine pe_go (pc := 103) rfl s_lmul ?_
  refine pe_go (pc := 104) rfl (s_lload rfl) ?_
  refine pe_go (pc := 106) rfl (s_lload rfl) ?_
  refine pe_go (pc := 108) rfl s_lmul ?_
  refine pe_go (pc := 109) rfl s_lsub ?_
  refine pe_go (pc := 110) rfl s_lmul ?_
  refine pe_go (pc := 111) rfl (s_aload_n rfl) ?_
  refine pe_go (pc := 112) rfl (s_getf (v := .ref (m + 14)) (gA0 hm (mB_0 _ _ _)) rfl) ?_
  refine pe_go (pc := 115) rfl (s_iload_n rfl) ?_
  refine pe_go (pc := 116) rfl (s_lald (n := 40) (f := fun j => lI (S.li j)) (gA hm (mB_li _ _ _)) (k := b) (by omega) (by omega) (by decide) rfl) ?_
  refine pe_go (pc := 117) rfl (s_lload rfl) ?_
  refine pe_go (pc := 119) rfl s_lsub ?_
  refine pe_go (pc := 120) rfl (s_lload rfl) ?_
  refine pe_go (pc := 122) rfl (s_lload rfl) ?_
  refine pe_go (pc := 124) rfl s_lmul ?_
  refine pe_go (pc := 125) rfl (s_lload rfl) ?_
  refine pe_go (pc := 127) rfl (s_lload rfl) ?_
  refine pe_go (pc := 129) rfl s_lmul ?_
  refine pe_go (pc := 130) rfl s_lsub ?_
  refine pe_go (pc := 131) rfl s_lmul ?_
  refine pe_go (pc := 132) rfl s_ladd ?_
  refine pe_go (pc := 133) rfl (s_aload_n rfl) ?_
  refine pe_go (pc := 134) rfl (s_getf (v := .ref (m + 14)) (gA0 hm (mB_0 _ _ _)) rfl) ?_
  refine pe_go (pc := 137) rfl (s_iload_n rfl) ?_
  refine pe_go (pc := 138) rfl (s_lald (n := 40) (f := fun j => lI (S.li j)) (gA hm (mB_li _ _ _)) (k := c) (by omega) (by omega) (by decide) rfl) ?_
  refine pe_go (pc := 139) rfl (s_lload rfl) ?_
  refine pe_go (pc := 141) rfl s_lsub ?_
  refine pe_go (pc := 142) rfl (s_lload rfl) ?_
  refine pe_go (pc := 144) rfl (s_lload rfl) ?_
  refine pe_go (pc := 146) rfl s_lmul ?_
  refine pe_go (pc := 147) rfl (s_lload rfl) ?_
  refine pe_go (pc := 149) rfl (s_lload rfl) ?_
  refine pe_go (pc := 151) rfl s_lmul ?_
  refine pe_go (pc := 152) rfl s_lsub ?_
  refine pe_go (pc := 153) rfl s_lmul ?_
  refine pe_go (pc := 154) rfl s_ladd ?_
  exact pe_ret rfl s_retl ⟨rfl, rfl⟩
/-- whether the edge a b, with c and d behind it, may be one -/
abbrev St.okE (S : St) (a b c d : Nat) : Prop := S.und a b c (S.xs d) (S.ys d) (S.li d) < 0 ∨ (S.und a b c (S.xs d) (S.ys d) (S.li d) = 0 ∧ (S.ahead (S.ahead a b) (S.ahead c d) = a ∨ S.ahead (S.ahead a b) (S.ahead c d) = b))
theorem St.ahead_or (S : St) (a b : Nat) : S.ahead a b = a ∨ S.ahead a b = b := by
  unfold St.ahead
  split
  · split
    · exact Or.inl rfl
    · exact Or.inr rfl
  · split
    · exact Or.inl rfl
    · exact Or.inr rfl
theorem St.ahead_b (S : St) {a b : Nat} (ha : a < 40) (hb : b < 40) : S.ahead a b < 40 := by
  rcases S.ahead_or a b with e | e <;> rw [e] <;> assumption
theorem c_isAllowed {pre post : pW} {m : Nat} (hm : pre.length = m) (S : St) {a b c d : Nat} (ha : a < 40) (hb : b < 40) (hc : c < 40) (hd : d < 40) (hac : S.ap (a * 40 + b) = (c : Int)) (had : S.ap (b * 40 + a) = (d : Int)) (h : S.inB) (hl : S.liB) : pRun 22 [.ref m, .int (iI (a : Int)), .int (iI (b : Int))] (pre ++ (mB m S ++ post)) (some (.int (bI (decide (S.okE a b c d))))) (pre ++ (mB m S ++ post)) := by
  refine qx_run ?_
  refine pc_run (lv := [(0, .ref m), (1, .int (iI (a : Int))), (2, .int (iI (b : Int)))]) rfl ?_
  refine pe_go (pc := 0) rfl (s_aload_n rfl) ?_
  refine pe_go (pc := 1) rfl (s_getf (v := .ref (m + 8)) (gA0 hm (mB_0 _ _ _)) rfl) ?_
  refine pe_go (pc := 4) rfl (s_iload_n rfl) ?_
  refine pe_go (pc := 5) rfl (s_bipush (z := 40) rfl) ?_
  refine pe_go (pc := 7) rfl s_imul ?_
  refine pe_go (pc := 8) rfl (s_iload_n rfl) ?_
  refine pe_go (pc := 9) rfl s_iadd ?_
  refine pe_go (pc := 10) rfl (s_iald (n := 1600) (f := S.ap) (v := (c : Int)) (gA hm (mB_ap _ _ _)) (k := (a * 40) + b) (by omega) (by omega) (by decide) hac) ?_
  refine pe_go (pc := 11) rfl (s_istore_n (lv' := [(3, .int (iI (c : Int))), (0, .ref m), (1, .int (iI (a : Int))), (2, .int (iI (b : Int)))]) rfl) ?_
  refine pe_go (pc := 12) rfl (s_aload_n rfl) ?_
  refine pe_go (pc := 13) rfl (s_getf (v := .ref (m + 8)) (gA0 hm (mB_0 _ _ _)) rfl) ?_
  refine pe_go (pc := 16) rfl (s_iload_n rfl) ?_
  refine pe_go (pc := 17) rfl (s_bipush (z := 40) rfl) ?_
  refine pe_go (pc := 19) rfl s_imul ?_
  refine pe_go (pc := 20) rfl (s_iload_n rfl) ?_
  refine pe_go (pc := 21) rfl s_iadd ?_
  refine pe_go (pc := 22) rfl (s_iald (n := 1600) (f := S.ap) (v := (d : Int)) (gA hm (mB_ap _ _ _)) (k := (b * 40) + a) (by omega) (by omega) (by decide) had) ?_
  refine pe_go (pc := 23) rfl (s_istore (lv' := [(4, .int (iI (d : Int))), (3, .int (iI (c : Int))), (0, .ref m), (1, .int (iI (a : Int))), (2, .int (iI (b : Int)))]) rfl) ?_
  refine pe_go (pc := 25) rfl (s_iload_n rfl) ?_
  refine pe_go (pc := 26) rfl (s_iconst (z := -1) rfl) ?_
  refine pe_go rfl (s_icmp_eq_f ⟨by omega, by omega⟩ ⟨by decide, by decide⟩ (by omega)) ?_
  refine pe_go (pc := 30) rfl (s_iload rfl) ?_
  refine pe_go (pc := 32) rfl (s_iconst (z := -1) rfl) ?_
  refine pe_go rfl (s_icmp_ne_t ⟨by omega, by omega⟩ ⟨by decide, by decide⟩ (by omega)) ?_
  refine pe_go (pc := 38) rfl (s_aload_n rfl) ?_
  refine pe_go (pc := 39) rfl (s_iload_n rfl) ?_
  refine pe_go (pc := 40) rfl (s_iload_n rfl) ?_
  refine pe_go (pc := 41) rfl (s_iload_n rfl) ?_
  refine pe_go (pc := 42) rfl (s_aload_n rfl) ?_
  refine pe_go (pc := 43) rfl (s_getf (v := .ref (m + 1)) (gA0 hm (mB_0 _ _ _)) rfl) ?_
  refine pe_go (pc := 46) rfl (s_getf (v := .ref (m + 2)) (gA hm (mB_1 _ _ _)) rfl) ?_
  refine pe_go (pc := 49) rfl (s_iload rfl) ?_
  refine pe_go (pc := 51) rfl (s_iald (n := 40) (f := S.xs) (v := S.xs d) (gA hm (mB_xs _ _ _)) (k := d) (by omega) (by omega) (by decide) rfl) ?_
  refine pe_go (pc := 52) rfl (s_aload_n rfl) ?_
  refine pe_go (pc := 53) rfl (s_getf (v := .ref (m + 1)) (gA0 hm (mB_0 _ _ _)) rfl) ?_
  refine pe_go (pc := 56) rfl (s_getf (v := .ref (m + 3)) (gA hm (mB_1 _ _ _)) rfl) ?_
  refine pe_go (pc := 59) rfl (s_iload rfl) ?_
  refine pe_go (pc := 61) rfl (s_iald (n := 40) (f := S.ys) (v := S.ys d) (gA hm (mB_ys _ _ _)) (k := d) (by omega) (by omega) (by decide) rfl) ?_
  refine pe_go (pc := 62) rfl (s_aload_n rfl) ?_
  refine pe_go (pc := 63) rfl (s_getf (v := .ref (m + 14)) (gA0 hm (mB_0 _ _ _)) rfl) ?_
  refine pe_go (pc := 66) rfl (s_iload rfl) ?_
  refine pe_go (pc := 68) rfl (s_lald (n := 40) (f := fun j => lI (S.li j)) (gA hm (mB_li _ _ _)) (k := d) (by omega) (by omega) (by decide) rfl) ?_
  refine pe_call rfl (s_invV rfl (gA0 hm (mB_0 _ _ _)) rfl rfl) (c_under hm S ha hb hc h (h d hd)) ?_
  refine pe_go (pc := 72) rfl (s_lstore (lv' := [(5, .long (lI (S.und a b c (S.xs d) (S.ys d) (S.li d)))), (4, .int (iI (d : Int))), (3, .int (iI (c : Int))), (0, .ref m), (1, .int (iI (a : Int))), (2, .int (iI (b : Int)))]) rfl) ?_
  refine pe_go (pc := 74) rfl (s_lload rfl) ?_
  refine pe_go (pc := 76) rfl s_lconst0 ?_
  rcases Int.lt_trichotomy (S.und a b c (S.xs d) (S.ys d) (S.li d)) 0 with c1 | c1 | c1
  · skip
    refine pe_go rfl (s_lcmp_lt (S.und_b h hl ha hb hc (h d hd) (hl d hd)) ⟨by decide, by decide⟩ c1) ?_
    refine pe_go rfl (s_if_eq_f ⟨by decide, by decide⟩ (by decide)) ?_
    refine pe_go (pc := 81) rfl (s_lload rfl) ?_
    refine pe_go (pc := 83) rfl s_lconst0 ?_
    rcases Int.lt_trichotomy (S.und a b c (S.xs d) (S.ys d) (S.li d)) 0 with c2 | c2 | c2
    · skip
      refine pe_go rfl (s_lcmp_lt (S.und_b h hl ha hb hc (h d hd) (hl d hd)) ⟨by decide, by decide⟩ c2) ?_
      refine pe_go rfl (s_if_ge_f ⟨by decide, by decide⟩ (by decide)) ?_
      refine pe_go (pc := 88) rfl (s_iconst (z := 1) rfl) ?_
      refine pe_go (pc := 89) rfl s_goto ?_
      exact pe_ret rfl s_ret1 ⟨by rw [decide_eq_true (show S.okE a b c d from (by unfold St.okE; omega))], rfl⟩
    · skip
      refine pe_go rfl (s_lcmp_eq c2) ?_
      refine pe_go rfl (s_if_ge_t ⟨by decide, by decide⟩ (by decide)) ?_
      refine pe_go (pc := 92) rfl (s_iconst (z := 0) rfl) ?_
      exact pe_ret rfl s_ret0 ⟨by rw [decide_eq_false (show ¬ (S.okE a b c d) from (by unfold St.okE; omega))], rfl⟩
    · skip
      refine pe_go rfl (s_lcmp_gt (S.und_b h hl ha hb hc (h d hd) (hl d hd)) ⟨by decide, by decide⟩ c2) ?_
      refine pe_go rfl (s_if_ge_t ⟨by decide, by decide⟩ (by decide)) ?_
      refine pe_go (pc := 92) rfl (s_iconst (z := 0) rfl) ?_
      exact pe_ret rfl s_ret0 ⟨by rw [decide_eq_false (show ¬ (S.okE a b c d) from (by unfold St.okE; omega))], rfl⟩
  · skip
    refine pe_go rfl (s_lcmp_eq c1) ?_
    refine pe_go rfl (s_if_eq_t ⟨by decide, by decide⟩ (by decide)) ?_
    refine pe_go (pc := 94) rfl (s_aload_n rfl) ?_
    refine pe_go (pc := 95) rfl (s_getf (v := .ref (m + 1)) (gA0 hm (mB_0 _ _ _)) rfl) ?_
    refine pe_go (pc := 98) rfl (s_aload_n rfl) ?_
    refine pe_go (pc := 99) rfl (s_getf (v := .ref (m + 1)) (gA0 hm (mB_0 _ _ _)) rfl) ?_
    refine pe_go (pc := 102) rfl (s_iload_n rfl) ?_
    refine pe_go (pc := 103) rfl (s_iload_n rfl) ?_
    refine pe_call rfl (s_invV rfl (gA hm (mB_1 _ _ _)) rfl rfl) (c_ahead hm S ha hb h) ?_
    refine pe_go (pc := 107) rfl (s_aload_n rfl) ?_
    refine pe_go (pc := 108) rfl (s_getf (v := .ref (m + 1)) (gA0 hm (mB_0 _ _ _)) rfl) ?_
    refine pe_go (pc := 111) rfl (s_iload_n rfl) ?_
    refine pe_go (pc := 112) rfl (s_iload rfl) ?_
    refine pe_call rfl (s_invV rfl (gA hm (mB_1 _ _ _)) rfl rfl) (c_ahead hm S hc hd h) ?_
    refine pe_call rfl (s_invV rfl (gA hm (mB_1 _ _ _)) rfl rfl) (c_ahead hm S (S.ahead_b ha hb) (S.ahead_b hc hd) h) ?_
    refine pe_go (pc := 120) rfl (s_istore (lv' := [(7, .int (iI (S.ahead (S.ahead a b) (S.ahead c d) : Int))), (5, .long (lI (S.und a b c (S.xs d) (S.ys d) (S.li d)))), (4, .int (iI (d : Int))), (3, .int (iI (c : Int))), (0, .ref m), (1, .int (iI (a : Int))), (2, .int (iI (b : Int)))]) rfl) ?_
    refine pe_go (pc := 122) rfl (s_iload rfl) ?_
    refine pe_go (pc := 124) rfl (s_iload_n rfl) ?_
    by_cases c3 : (S.ahead (S.ahead a b) (S.ahead c d) : Int) = (a : Int)
    · skip
      refine pe_go rfl (s_icmp_eq_t (by have := S.ahead_b (S.ahead_b ha hb) (S.ahead_b hc hd); exact ⟨by omega, by omega⟩) ⟨by omega, by omega⟩ c3) ?_
      refine pe_go (pc := 134) rfl (s_iconst (z := 1) rfl) ?_
      refine pe_go (pc := 135) rfl s_goto ?_
      exact pe_ret rfl s_ret1 ⟨by rw [decide_eq_true (show S.okE a b c d from (by unfold St.okE; omega))], rfl⟩
    · skip
      refine pe_go rfl (s_icmp_eq_f (by have := S.ahead_b (S.ahead_b ha hb) (S.ahead_b hc hd); exact ⟨by omega, by omega⟩) ⟨by omega, by omega⟩ c3) ?_
      refine pe_go (pc := 128) rfl (s_iload rfl) ?_
      refine pe_go (pc := 130) rfl (s_iload_n rfl) ?_
      by_cases c4 : (S.ahead (S.ahead a b) (S.ahead c d) : Int) = (b : Int)
      · skip
        refine pe_go rfl (s_icmp_ne_f (by have := S.ahead_b (S.ahead_b ha hb) (S.ahead_b hc hd); exact ⟨by omega, by omega⟩) ⟨by omega, by omega⟩ (fun e => e c4)) ?_
        refine pe_go (pc := 134) rfl (s_iconst (z := 1) rfl) ?_
        refine pe_go (pc := 135) rfl s_goto ?_
        exact pe_ret rfl s_ret1 ⟨by rw [decide_eq_true (show S.okE a b c d from (by unfold St.okE; omega))], rfl⟩
      · skip
        refine pe_go rfl (s_icmp_ne_t (by have := S.ahead_b (S.ahead_b ha hb) (S.ahead_b hc hd); exact ⟨by omega, by omega⟩) ⟨by omega, by omega⟩ c4) ?_
        refine pe_go (pc := 138) rfl (s_iconst (z := 0) rfl) ?_
        exact pe_ret rfl s_ret0 ⟨by rw [decide_eq_false (show ¬ (S.okE a b c d) from (by unfold St.okE; omega))], rfl⟩
  · skip
    refine pe_go rfl (s_lcmp_gt (S.und_b h hl ha hb hc (h d hd) (hl d hd)) ⟨by decide, by decide⟩ c1) ?_
    refine pe_go rfl (s_if_eq_f ⟨by decide, by decide⟩ (by decide)) ?_
    refine pe_go (pc := 81) rfl (s_lload rfl) ?_
    refine pe_go (pc := 83) rfl s_lconst0 ?_
    rcases Int.lt_trichotomy (S.und a b c (S.xs d) (S.ys d) (S.li d)) 0 with c5 | c5 | c5
    · skip
      refine pe_go rfl (s_lcmp_lt (S.und_b h hl ha hb hc (h d hd) (hl d hd)) ⟨by decide, by decide⟩ c5) ?_
      refine pe_go rfl (s_if_ge_f ⟨by decide, by decide⟩ (by decide)) ?_
      refine pe_go (pc := 88) rfl (s_iconst (z := 1) rfl) ?_
      refine pe_go (pc := 89) rfl s_goto ?_
      exact pe_ret rfl s_ret1 ⟨by rw [decide_eq_true (show S.okE a b c d from (by unfold St.okE; omega))], rfl⟩
    · skip
      refine pe_go rfl (s_lcmp_eq c5) ?_
      refine pe_go rfl (s_if_ge_t ⟨by decide, by decide⟩ (by decide)) ?_
      refine pe_go (pc := 92) rfl (s_iconst (z := 0) rfl) ?_
      exact pe_ret rfl s_ret0 ⟨by rw [decide_eq_false (show ¬ (S.okE a b c d) from (by unfold St.okE; omega))], rfl⟩
    · skip
      refine pe_go rfl (s_lcmp_gt (S.und_b h hl ha hb hc (h d hd) (hl d hd)) ⟨by decide, by decide⟩ c5) ?_
      refine pe_go rfl (s_if_ge_t ⟨by decide, by decide⟩ (by decide)) ?_
      refine pe_go (pc := 92) rfl (s_iconst (z := 0) rfl) ?_
      exact pe_ret rfl s_ret0 ⟨by rw [decide_eq_false (show ¬ (S.okE a b c d) from (by unfold St.okE; omega))], rfl⟩
/-- the world, its lifts anew -/
def liW (pre post : pW) (m : Nat) (S : St) (F : Nat → Int) (r : Option Value) (w' : pW) : Prop := r = none ∧ ∃ li, (∀ j : Nat, j < 40 → li j = F j) ∧ w' = pre ++ (mB m (S.u_li li) ++ post)
def St.liR (S : St) (p : Nat) : Int := S.xs p * S.xs p + S.ys p * S.ys p
def St.liS (S : St) (a b p : Nat) : Int := zabs (S.sd3 a b p)
theorem l_liftRound {pre post : pW} {m : Nat} (hm : pre.length = m) (S : St) (h : S.inB) : ∀ (n p : Nat) (li : Nat → Int), p + n = 40 → (∀ i : Nat, i < p → li i = S.liR i) → qE 23 (2, [(1, .int (iI (p : Int))), (0, .ref m)], [], pre ++ (mB m (S.u_li li) ++ post)) (liW pre post m S (S.liR)) := by
  intro n
  induction n with
  | zero =>
    intro p li hp hli
    refine pe_go (pc := 2) rfl (s_iload_n rfl) ?_
    refine pe_go (pc := 3) rfl (s_bipush (z := 40) rfl) ?_
    refine pe_go rfl (s_icmp_ge_t ⟨by omega, by omega⟩ ⟨by decide, by decide⟩ (by omega)) ?_
    exact pe_ret rfl s_retv ⟨rfl, li, fun i hi => hli i (by omega), rfl⟩
  | succ n ih =>
    intro p li hp hli
    refine pe_go (pc := 2) rfl (s_iload_n rfl) ?_
    refine pe_go (pc := 3) rfl (s_bipush (z := 40) rfl) ?_
    refine pe_go rfl (s_icmp_ge_f ⟨by omega, by omega⟩ ⟨by decide, by decide⟩ (by omega)) ?_
    have b_p := h p (by omega)
    refine pe_go (pc := 8) rfl (s_aload_n rfl) ?_
    refine pe_go (pc := 9) rfl (s_getf (v := .ref (m + 14)) (gA0 hm (mB_0 _ _ _)) rfl) ?_
    refine pe_go (pc := 12) rfl (s_iload_n rfl) ?_
    refine pe_go (pc := 13) rfl (s_aload_n rfl) ?_
    refine pe_go (pc := 14) rfl (s_getf (v := .ref (m + 1)) (gA0 hm (mB_0 _ _ _)) rfl) ?_
    refine pe_go (pc := 17) rfl (s_getf (v := .ref (m + 2)) (gA hm (mB_1 _ _ _)) rfl) ?_
    refine pe_go (pc := 20) rfl (s_iload_n rfl) ?_
    refine pe_go (pc := 21) rfl (s_iald (n := 40) (f := S.xs) (v := S.xs p) (gA hm (mB_xs _ _ _)) (k := p) (by omega) (by omega) (by decide) rfl) ?_
    refine pe_go (pc := 22) rfl (s_i2l ⟨by omega, by omega⟩) ?_
    refine pe_go (pc := 23) rfl (s_aload_n rfl) ?_
    refine pe_go (pc := 24) rfl (s_getf (v := .ref (m + 1)) (gA0 hm (mB_0 _ _ _)) rfl) ?_
    refine pe_go (pc := 27) rfl (s_getf (v := .ref (m + 2)) (gA hm (mB_1 _ _ _)) rfl) ?_
    refine pe_go (pc := 30) rfl (s_iload_n rfl) ?_
    refine pe_go (pc := 31) rfl (s_iald (n := 40) (f := S.xs) (v := S.xs p) (gA hm (mB_xs _ _ _)) (k := p) (by omega) (by omega) (by decide) rfl) ?_
    refine pe_go (pc := 32) rfl (s_i2l ⟨by omega, by omega⟩) ?_
    refine pe_go (pc := 33) rfl s_lmul ?_
    refine pe_go (pc := 34) rfl (s_aload_n rfl) ?_
    refine pe_go (pc := 35) rfl (s_getf (v := .ref (m + 1)) (gA0 hm (mB_0 _ _ _)) rfl) ?_
    refine pe_go (pc := 38) rfl (s_getf (v := .ref (m + 3)) (gA hm (mB_1 _ _ _)) rfl) ?_
    refine pe_go (pc := 41) rfl (s_iload_n rfl) ?_
    refine pe_go (pc := 42) rfl (s_iald (n := 40) (f := S.ys) (v := S.ys p) (gA hm (mB_ys _ _ _)) (k := p) (by omega) (by omega) (by decide) rfl) ?_
    refine pe_go (pc := 43) rfl (s_i2l ⟨by omega, by omega⟩) ?_
    refine pe_go (pc := 44) rfl (s_aload_n rfl) ?_
    refine pe_go (pc := 45) rfl (s_getf (v := .ref (m + 1)) (gA0 hm (mB_0 _ _ _)) rfl) ?_
    refine pe_go (pc := 48) rfl (s_getf (v := .ref (m + 3)) (gA hm (mB_1 _ _ _)) rfl) ?_
    refine pe_go (pc := 51) rfl (s_iload_n rfl) ?_
    refine pe_go (pc := 52) rfl (s_iald (n := 40) (f := S.ys) (v := S.ys p) (gA hm (mB_ys _ _ _)) (k := p) (by omega) (by omega) (by decide) rfl) ?_
    refine pe_go (pc := 53) rfl (s_i2l ⟨by omega, by omega⟩) ?_
    refine pe_go (pc := 54) rfl s_lmul ?_
    refine pe_go (pc := 55) rfl s_ladd ?_
    refine pe_go (pc := 56) rfl (s_last_l (n := 40) (f := li) (w' := pre ++ (mB m (S.u_li (uZ li p (((S.xs p) * (S.xs p)) + ((S.ys p) * (S.ys p))))) ++ post)) (gA hm (mB_li _ _ _)) (k := p) (by omega) (by omega) (by decide) (gS hm (mB_s_li _ _ _ _))) ?_
    refine pe_go (pc := 57) rfl (s_iinc (x := (p : Int)) (y := ((p + 1 : Nat) : Int)) rfl (by omega) (lv' := [(1, .int (iI ((p + 1 : Nat) : Int))), (0, .ref m)]) rfl) ?_
    refine pe_go (pc := 60) rfl s_goto ?_
    refine ih (p + 1) (uZ li p (((S.xs p) * (S.xs p)) + ((S.ys p) * (S.ys p)))) (by omega) (fun i hi => ?_)
    by_cases e9 : i = p
    · subst e9
      exact uZ_at _ _ _
    · rw [uZ_ne e9]
      exact hli i (by omega)
theorem c_liftRound {pre post : pW} {m : Nat} (hm : pre.length = m) (S : St) (h : S.inB) : qC 23 [.ref m] (pre ++ (mB m S ++ post)) (liW pre post m S (S.liR)) := by
  refine pc_run (lv := [(0, .ref m)]) rfl ?_
  refine pe_go (pc := 0) rfl (s_iconst (z := 0) rfl) ?_
  refine pe_go (pc := 1) rfl (s_istore_n (lv' := [(1, .int (iI 0)), (0, .ref m)]) rfl) ?_
  exact l_liftRound hm S h 40 0 S.li rfl (fun i hi => by omega)
theorem l_liftFrom {pre post : pW} {m : Nat} (hm : pre.length = m) (S : St) {a b : Nat} (ha : a < 40) (hb : b < 40) (h : S.inB) : ∀ (n p : Nat) (li : Nat → Int), p + n = 40 → (∀ i : Nat, i < p → li i = S.liS a b i) → qE 24 (2, [(3, .int (iI (p : Int))), (0, .ref m), (1, .int (iI (a : Int))), (2, .int (iI (b : Int)))], [], pre ++ (mB m (S.u_li li) ++ post)) (liW pre post m S (S.liS a b)) := by
  intro n
  induction n with
  | zero =>
    intro p li hp hli
    refine pe_go (pc := 2) rfl (s_iload_n rfl) ?_
    refine pe_go (pc := 3) rfl (s_bipush (z := 40) rfl) ?_
    refine pe_go rfl (s_icmp_ge_t ⟨by omega, by omega⟩ ⟨by decide, by decide⟩ (by omega)) ?_
    exact pe_ret rfl s_retv ⟨rfl, li, fun i hi => hli i (by omega), rfl⟩
  | succ n ih =>
    intro p li hp hli
    refine pe_go (pc := 2) rfl (s_iload_n rfl) ?_
    refine pe_go (pc := 3) rfl (s_bipush (z := 40) rfl) ?_
    refine pe_go rfl (s_icmp_ge_f ⟨by omega, by omega⟩ ⟨by decide, by decide⟩ (by omega)) ?_
    refine pe_go (pc := 8) rfl (s_aload_n rfl) ?_
    refine pe_go (pc := 9) rfl (s_getf (v := .ref (m + 14)) (gA0 hm (mB_0 _ _ _)) rfl) ?_
    refine pe_go (pc := 12) rfl (s_iload_n rfl) ?_
    refine pe_go (pc := 13) rfl (s_aload_n rfl) ?_
    refine pe_go (pc := 14) rfl (s_getf (v := .ref (m + 1)) (gA0 hm (mB_0 _ _ _)) rfl) ?_
    refine pe_go (pc := 17) rfl (s_iload_n rfl) ?_
    refine pe_go (pc := 18) rfl (s_iload_n rfl) ?_
    refine pe_go (pc := 19) rfl (s_iload_n rfl) ?_
    refine pe_call rfl (s_invV rfl (gA hm (mB_1 _ _ _)) rfl rfl) (c_side3 hm (S.u_li li) ha hb (by omega)) ?_
    refine pe_call rfl (s_invS rfl rfl rfl) (c_abs (show sm (S.sd3 a b p) from (by have := S.sd3_b h ha hb (show p < 40 by omega); exact ⟨by omega, by omega⟩))) ?_
    refine pe_go (pc := 26) rfl (s_i2l (show sm (zabs (S.sd3 a b p)) from (by have := S.sd3_b h ha hb (show p < 40 by omega); unfold zabs; split <;> exact ⟨by omega, by omega⟩))) ?_
    refine pe_go (pc := 27) rfl (s_last_l (n := 40) (f := li) (w' := pre ++ (mB m (S.u_li (uZ li p (zabs (S.sd3 a b p)))) ++ post)) (gA hm (mB_li _ _ _)) (k := p) (by omega) (by omega) (by decide) (gS hm (mB_s_li _ _ _ _))) ?_
    refine pe_go (pc := 28) rfl (s_iinc (x := (p : Int)) (y := ((p + 1 : Nat) : Int)) rfl (by omega) (lv' := [(3, .int (iI ((p + 1 : Nat) : Int))), (0, .ref m), (1, .int (iI (a : Int))), (2, .int (iI (b : Int)))]) rfl) ?_
    refine pe_go (pc := 31) rfl s_goto ?_
    refine ih (p + 1) (uZ li p (zabs (S.sd3 a b p))) (by omega) (fun i hi => ?_)
    by_cases e9 : i = p
    · subst e9
      exact uZ_at _ _ _
    · rw [uZ_ne e9]
      exact hli i (by omega)
theorem c_liftFrom {pre post : pW} {m : Nat} (hm : pre.length = m) (S : St) {a b : Nat} (ha : a < 40) (hb : b < 40) (h : S.inB) : qC 24 [.ref m, .int (iI (a : Int)), .int (iI (b : Int))] (pre ++ (mB m S ++ post)) (liW pre post m S (S.liS a b)) := by
  refine pc_run (lv := [(0, .ref m), (1, .int (iI (a : Int))), (2, .int (iI (b : Int)))]) rfl ?_
  refine pe_go (pc := 0) rfl (s_iconst (z := 0) rfl) ?_
  refine pe_go (pc := 1) rfl (s_istore_n (lv' := [(3, .int (iI 0)), (0, .ref m), (1, .int (iI (a : Int))), (2, .int (iI (b : Int)))]) rfl) ?_
  exact l_liftFrom hm S ha hb h 40 0 S.li rfl (fun i hi => by omega)
