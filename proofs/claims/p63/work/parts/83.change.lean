/-! WHAT EACH CHANGE MAKES OF A STATE BETWEEN CALLS. By hand. -/
theorem St.Rg_tld {S T : St} (h : S.tld T) (k : S.Rg) : T.Rg := by
  obtain ⟨h1, h2, h3, h4, h5, h6, h7, h8, h9⟩ := h
  unfold St.Rg at *
  rw [h3, h4, h7, h8, h9]
  exact k
theorem setW_ok {pre post : pW} {m : Nat} {T : St} (hM : T.Msh) (hI : T.wI) (hq : T.wq) (h4 : T.w4) (hc : T.Cor) (hR : T.okR) (hg : T.Rg) {r : Option Value} {w' : pW} (h : setW pre post m T r w') : r = none ∧ ∃ R : St, R.Ok ∧ T.tld R ∧ w' = pre ++ (mB m R ++ post) := by
  obtain ⟨li, hli, rfl, ow, co, en, ne, tn, ec, hE, hT, rfl⟩ := h
  obtain ⟨g1, g2, g3, g4⟩ := St.rest hM hI hq h4 hc hli
  refine ⟨rfl, _, St.Ok_of g1 (fun j hj => by rw [g4]; exact hR j hj) (St.Rg_tld g3 hg) hE hT, St.tld_trans g3 ⟨rfl, rfl, rfl, rfl, rfl, rfl, rfl, rfl, rfl⟩, rfl⟩
theorem St.Ok.look {S : St} (h : S.Ok) {x y : Int} (hz : S.atP x y = -1) : ∀ q : Nat, q < 40 → S.has q → ¬ (S.xs q = x ∧ S.ys q = y) := by
  intro q hq sq e
  rcases S.atF_ge x y 40 0 with ⟨-, h2⟩ | ⟨q2, -, -, h3, -⟩
  · exact h2 q (by omega) (by omega) ⟨sq, e.1, e.2⟩
  · unfold St.atP at hz
    omega
/-- the least number that isn't used -/
theorem St.lu_ok {S : St} (h : S.lu ≠ -1) : ∃ p : Nat, S.lu = (p : Int) ∧ 4 ≤ p ∧ p < 40 ∧ ¬ S.has p ∧ ∀ r : Nat, 4 ≤ r → r < p → S.has r := by
  rcases S.luF_ge 36 4 with ⟨h1, -⟩ | ⟨q, h1, h2, h3, h4, h5⟩
  · exact absurd h1 h
  · exact ⟨q, h3, h1, by omega, h4, h5⟩
theorem St.hiTh_set {x : Int64} {p : Nat} (hp : p < 40) (h : ∀ k : Nat, 40 ≤ k → bt x k = false) : ∀ k : Nat, 40 ≤ k → bt (bSet x p) k = false := fun k hk => by
  rw [bt_set (by omega), h k hk, decide_eq_false (show ¬ k = p by omega)]
  rfl
theorem St.hiTh_clr {x : Int64} {p : Nat} (hp : p < 40) (h : ∀ k : Nat, 40 ≤ k → bt x k = false) : ∀ k : Nat, 40 ≤ k → bt (bClr x p) k = false := fun k hk => by
  rw [bt_clr (by omega), h k hk]
  rfl
theorem k_ins {pre post : pW} {m : Nat} (hm : pre.length = m) {S : St} (hS : S.Ok) {p : Nat} {x y : Int} (hp : p < 40) (hnp : ¬ S.has p) (hq : inSq x y) (hfree : ∀ q : Nat, q < 40 → S.has q → ¬ (S.xs q = x ∧ S.ys q = y)) : qC 5 [.ref m, .int (iI (p : Int)), .int (iI x), .int (iI y)] (pre ++ (mB m S ++ post)) (fun r w' => r = none ∧ ∃ R : St, R.Ok ∧ S.laid R p x y ∧ S.rst R ∧ w' = pre ++ (mB m R ++ post)) := by
  obtain ⟨T, hT, hT2⟩ := hS.T
  obtain ⟨t, a, b, c, ht, hw, ha, hb, hc, e1, e2, e3, hap, s1, s2, s3⟩ := St.where_ok hS.M.1 hS.2.2.1 hT hq
  have hins : S.ins p x y t = S.ins0 p x y a b c := by unfold St.ins; rw [e1, e2, e3]
  obtain ⟨k1, k2, k3, k4, k5⟩ := St.ins_pre hS.1 hp hnp hq hfree ha hb hc hap s1 s2 s3
  have kl := St.laid_ok hS.M hS.1.2.2.2.1 (St.Del_w4 hS.1.2.1) hp hnp hq hfree ha hb hc hap s1 s2 s3
  obtain ⟨t1, t2, t3, t4, t5, t6⟩ := St.ins0_tld S p a b c x y
  have hhi := St.hiF_ins0 (x := x) (y := y) hp ha hb hc (show S.hiF from hS.2.2.2.2.2.2.2.1)
  have kRg : (S.ins0 p x y a b c).Rg := by
    obtain ⟨r1, r2, r3, r4, r5⟩ := hS.2.2.2.2
    refine ⟨by rw [t4]; exact r1, by rw [t5]; exact r2, by rw [kl.2.2.1]; exact St.hiTh_set hp r3, hhi, by rw [t1]; exact r5⟩
  refine qc_mono (c_insert hm S hp hT hT2 hq hS.I.CN.1 hS.I (by omega) hw (by rw [hins]; exact St.rest_setL k1 k2 k3 k4 k5)) (fun r w' h => ?_)
  rw [hins] at h
  obtain ⟨g1, R, g2, g3, g4⟩ := setW_ok k1 k2 k3 k4 k5 (by unfold St.okR; rw [t6]; exact hS.2.2.2.1) kRg h
  obtain ⟨u1, u2, u3, u4, u5, u6, u7, u8, u9⟩ := g3
  refine ⟨g1, R, g2, ⟨u1.trans kl.1, u2.trans kl.2.1, u7.trans kl.2.2.1, fun u v hu hv => ?_⟩, ⟨u3.trans t1, u5.trans t2, u6.trans t3, u8.trans t4, u9.trans t5⟩, g4⟩
  have := kl.2.2.2 u v hu hv
  unfold St.bound at *
  rw [u4]
  exact this
theorem St.Ok_uhs {S : St} (h : S.Gd) (v : Nat → Int) : (S.u_hs v).Gd := by
  have hcg : S.cong (S.u_hs v) := ⟨h.2.2.1.B, fun _ _ => Iff.rfl, fun _ _ _ => ⟨rfl, rfl⟩, fun _ _ => rfl, fun _ _ _ _ => Iff.rfl⟩
  exact ⟨St.cong_Msh hcg h.1, St.cong_Del hcg h.1.1 h.2.1, h.2.2.1, h.2.2.2.1, h.2.2.2.2.1, h.2.2.2.2.2⟩
theorem k_tell {pre post : pW} {m : Nat} (hm : pre.length = m) {S : St} (hS : S.Ok) {x y : Int} (htk : S.takes x y) : qC 4 [.ref m, .int (iI x), .int (iI y)] (pre ++ (mB m S ++ post)) (fun r w' => ∃ p : Nat, S.lu = (p : Int) ∧ r = some (.int (iI (p : Int))) ∧ ∃ R : St, R.Ok ∧ S.laid R p x y ∧ (S.u_hs (uZ S.hs p 0)).rst R ∧ w' = pre ++ (mB m R ++ post)) := by
  obtain ⟨hq, hat, hl⟩ := id htk
  obtain ⟨p, hlu, hp4, hp, hnp, -⟩ := St.lu_ok hl
  have hfree := hS.look hat
  obtain ⟨T, hT, hT2⟩ := hS.T
  obtain ⟨t, a, b, c, ht, hw, ha, hb, hc, e1, e2, e3, hap, s1, s2, s3⟩ := St.where_ok hS.M.1 hS.2.2.1 hT hq
  have hins : S.tel p x y t = (S.u_hs (uZ S.hs p 0)).ins0 p x y a b c := by
    show (S.u_hs (uZ S.hs p 0)).ins0 p x y (S.cn t 0) (S.cn t 1) (S.cn t 2) = _
    rw [e1, e2, e3]
  have hG := St.Ok_uhs hS.1 (uZ S.hs p 0)
  obtain ⟨k1, k2, k3, k4, k5⟩ := St.ins_pre hG hp hnp hq hfree ha hb hc hap s1 s2 s3
  have kl := St.laid_ok hG.1 hG.2.2.2.1 (St.Del_w4 hG.2.1) hp hnp hq hfree ha hb hc hap s1 s2 s3
  obtain ⟨t1, t2, t3, t4, t5, t6⟩ := St.ins0_tld (S.u_hs (uZ S.hs p 0)) p a b c x y
  have hhi := St.hiF_ins0 (S := S.u_hs (uZ S.hs p 0)) (x := x) (y := y) hp ha hb hc (show S.hiF from hS.2.2.2.2.2.2.2.1)
  have kRg : ((S.u_hs (uZ S.hs p 0)).ins0 p x y a b c).Rg := by
    obtain ⟨r1, r2, r3, r4, r5⟩ := hS.2.2.2.2
    refine ⟨by rw [t4]; exact r1, by rw [t5]; exact r2, by rw [kl.2.2.1]; exact St.hiTh_set hp r3, hhi, fun q hq => ?_⟩
    rw [t1]
    show -9999 ≤ uZ S.hs p 0 q ∧ uZ S.hs p 0 q ≤ 9999
    unfold uZ
    split
    · exact ⟨by decide, by decide⟩
    · exact r5 q hq
  refine qc_mono (c_tell hm S hp hT hT2 hq hS.I.CN.1 hS.I (by omega) hw htk hlu (by rw [hins]; exact St.rest_setL k1 k2 k3 k4 k5)) (fun r w' h => ?_)
  obtain ⟨h0, h⟩ := h
  rw [hins] at h
  obtain ⟨-, R, g2, g3, g4⟩ := setW_ok k1 k2 k3 k4 k5 (by unfold St.okR; rw [t6]; exact hS.2.2.2.1) kRg h
  obtain ⟨u1, u2, u3, u4, u5, u6, u7, u8, u9⟩ := g3
  refine ⟨p, hlu, h0, R, g2, ⟨u1.trans kl.1, u2.trans kl.2.1, u7.trans kl.2.2.1, fun u v hu hv => ?_⟩, ⟨u3.trans t1, u5.trans t2, u6.trans t3, u8.trans t4, u9.trans t5⟩, g4⟩
  have := kl.2.2.2 u v hu hv
  unfold St.bound at *
  rw [u4]
  exact this
theorem k_out {pre post : pW} {m : Nat} (hm : pre.length = m) {S : St} (hS : S.Ok) {p : Nat} (hp : p < 40) (sp : S.has p) (hl : S.fx p = lI 0) : qC 7 [.ref m, .int (iI (p : Int))] (pre ++ (mB m S ++ post)) (fun r w' => r = none ∧ ∃ R : St, R.Ok ∧ (R.xs = S.xs ∧ R.ys = S.ys ∧ R.th = bClr S.th p ∧ R.fx = S.fx) ∧ S.rst R ∧ w' = pre ++ (mB m R ++ post)) := by
  have hl2 : ∀ v : Nat, v < 40 → ¬ S.bound p v := fun v hv z => by
    unfold St.bound at z
    rw [hl, show lI 0 = (0 : Int64) from rfl, bt_0] at z
    cases z
  obtain ⟨v0, hv0, hf, hit, hk⟩ := St.out_pre hS.1 hS.2.1 hS.2.2.2.1 hp sp hl2
  refine qc_mono (c_takeOut hm S hp hv0 hS.I hS.2.2.2.1 hf hit (fun n rd h1 h2 h3 => ?_)) (fun r w' h => ?_)
  · obtain ⟨k1, k2⟩ := hk n rd h1 h2 h3
    exact ⟨k1, fun S' hc => by
      obtain ⟨⟨q1, q2, q3, q4, q5⟩, -, -, -⟩ := k2 S' hc
      exact St.rest_setL q1 q2 q3 q4 q5⟩
  · obtain ⟨n, rd, h1, h2, h3, S', hc, hW⟩ := h
    obtain ⟨-, k2⟩ := hk n rd h1 h2 h3
    obtain ⟨⟨q1, q2, q3, q4, q5⟩, ⟨x1, x2, x3, x4⟩, y1, y2⟩ := k2 S' hc
    have kRg : S'.Rg := by
      obtain ⟨r1, r2, r3, r4, r5⟩ := hS.2.2.2.2
      exact ⟨by rw [y1.2.2.2.1]; exact r1, by rw [y1.2.2.2.2]; exact r2, by rw [x3]; exact St.hiTh_clr hp r3, by rw [x4]; exact r4, by rw [y1.1]; exact r5⟩
    obtain ⟨g1, R, g2, g3, g4⟩ := setW_ok q1 q2 q3 q4 q5 y2 kRg hW
    obtain ⟨u1, u2, u3, u4, u5, u6, u7, u8, u9⟩ := g3
    exact ⟨g1, R, g2, ⟨u1.trans x1, u2.trans x2, u7.trans x3, u4.trans x4⟩, St.rst_trans y1 ⟨u3, u5, u6, u8, u9⟩, g4⟩
theorem k_free {pre post : pW} {m : Nat} (hm : pre.length = m) {S : St} (hS : S.Ok) {a b : Nat} (ha : a < 40) (hb : b < 40) (hab : S.bound a b) (hin : S.ap (a * 40 + b) ≠ -1 ∧ S.ap (b * 40 + a) ≠ -1) : qC 14 [.ref m, .int (iI (a : Int)), .int (iI (b : Int))] (pre ++ (mB m S ++ post)) (fun r w' => r = none ∧ ∃ R : St, R.Ok ∧ (R.xs = S.xs ∧ R.ys = S.ys ∧ R.th = S.th ∧ ∀ x y : Nat, R.bound x y ↔ S.bound x y ∧ ¬ eU a b x y) ∧ S.rst R ∧ w' = pre ++ (mB m R ++ post)) := by
  obtain ⟨q1, q2, q3, q4, q5, q6⟩ := St.free_pre hS.1 ha hb hab hin
  have e : ∀ T : St, (T.aw a b).xs = T.xs ∧ (T.aw a b).ys = T.ys ∧ (T.aw a b).th = T.th ∧ (T.aw a b).fx = T.fx ∧ (T.aw a b).hs = T.hs ∧ (T.aw a b).hx = T.hx ∧ (T.aw a b).hy = T.hy ∧ (T.aw a b).hn = T.hn ∧ (T.aw a b).g = T.g ∧ (T.aw a b).rd = T.rd := fun T => ⟨St.aw_xs T a b, St.aw_ys T a b, St.aw_th T a b, St.aw_fx T a b, St.aw_hs T a b, St.aw_hx T a b, St.aw_hy T a b, St.aw_hn T a b, St.aw_g T a b, St.aw_rd T a b⟩
  obtain ⟨e1, e2, e3, e4, e5, e6, e7, e8, e9, e10⟩ := e (S.unb a b)
  have kRg : ((S.unb a b).aw a b).Rg := by
    obtain ⟨r1, r2, r3, r4, r5⟩ := hS.2.2.2.2
    exact ⟨by rw [e8]; exact r1, by rw [e9]; exact r2, by rw [e3]; exact r3, St.hiF_eq e4 (St.hiF_unb ha hb r4), by rw [e5]; exact r5⟩
  refine qc_mono (c_freeEdge hm S ha hb hS.I (St.rest_setL q1 q2 q3 q4 q5)) (fun r w' h => ?_)
  obtain ⟨g1, R, g2, g3, g4⟩ := setW_ok q1 q2 q3 q4 q5 (by unfold St.okR; rw [e10]; exact hS.2.2.2.1) kRg h
  obtain ⟨u1, u2, u3, u4, u5, u6, u7, u8, u9⟩ := g3
  refine ⟨g1, R, g2, ⟨u1.trans e1, u2.trans e2, u7.trans e3, fun x y => ?_⟩, ⟨u3.trans e5, u5.trans e6, u6.trans e7, u8.trans e8, u9.trans e9⟩, g4⟩
  have := q6 x y
  unfold St.bound at *
  rw [u4]
  exact this
