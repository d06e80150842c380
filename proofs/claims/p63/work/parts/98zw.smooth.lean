/-! THE LAW: smoothed in step. By hand. -/
theorem t_move {w : pW} {b : Nat} {S : St} (h : tb w b S) {p : Nat} (hp : p < 40) {x y : Int} (hx : sm x) (hy : sm y) (hl : S.loose p) (hi : inSq x y) (ha : S.atP x y = -1) : qC 89 [.ref b, .int (iI (p : Int)), .int (iI x), .int (iI y)] w (fun r w' => r = some (.int (bI true)) ∧ ∃ R T : St, R.Ok ∧ (R.xs = S.xs ∧ R.ys = S.ys ∧ R.th = bClr S.th p ∧ R.fx = S.fx) ∧ S.rst R ∧ R.laid T p x y ∧ R.rst T ∧ tb w' b T ∧ chg b w w') := by
  obtain ⟨L, M, K, h⟩ := h
  refine qc_mono (k_moveY h hp hx hy hl hi ha) (fun r w' z => ?_)
  obtain ⟨z1, R, T, z2, z3, z4, z5, z6, z7, z8⟩ := z
  exact ⟨z1, R, T, z2, z3, z4, z5, z6, ⟨_, _, _, z7⟩, z8⟩
/-- sums over the neighbours ahead of n -/
noncomputable def St.sK (S : St) (p : Nat) (f : Nat → Int) (n : Nat) : Int := sumR n (fun j => @ite Int (S.nr p j) (Classical.propDecidable _) (f j) 0)
theorem St.sK_y {S : St} {p n : Nat} {f : Nat → Int} (h : S.nr p n) : S.sK p f (n + 1) = S.sK p f n + f n := by
  show S.sK p f n + @ite Int (S.nr p n) (Classical.propDecidable _) (f n) 0 = _
  rw [if_pos h]
theorem St.sK_n {S : St} {p n : Nat} {f : Nat → Int} (h : ¬ S.nr p n) : S.sK p f (n + 1) = S.sK p f n := by
  show S.sK p f n + @ite Int (S.nr p n) (Classical.propDecidable _) (f n) 0 = _
  rw [if_neg h, Int.add_zero]
theorem St.loose_nr {S : St} (hS : S.Ok) {p : Nat} (hp : p < 40) (hl : S.loose p) {j : Nat} (hj : j < 40) : S.nr p j ↔ S.E p j := by
  refine (St.near_E hS.M.1.PM hS.2.1 hp hj).trans ⟨fun z => ?_, Or.inl⟩
  rcases z with z | z
  · exact z
  · refine Classical.byContradiction (fun q => ?_)
    have e : S.ap (p * 40 + j) = -1 := Classical.byContradiction q
    have := hS.M.2.1.2 j p hj hp z e
    exact St.loose_b hl j hj ((hS.bound_sym hj hp).mp this)
theorem St.sK_40 {S : St} (hS : S.Ok) {p : Nat} (hp : p < 40) (hl : S.loose p) (f : Nat → Int) : S.sK p f 40 = S.sE p f := by
  unfold St.sK St.sE
  refine sumR_congr (fun j hj => ?_)
  by_cases z : S.E p j
  · rw [if_pos z, if_pos ((St.loose_nr hS hp hl hj).mpr z)]
  · rw [if_neg z, if_neg (fun q => z ((St.loose_nr hS hp hl hj).mp q))]
theorem St.sK_b {S : St} {p : Nat} {f : Nat → Int} {m : Int} (hm : 0 ≤ m) (hf : ∀ j : Nat, j < 40 → -m ≤ f j ∧ f j ≤ m) : ∀ n : Nat, n ≤ 40 → -(m * n) ≤ S.sK p f n ∧ S.sK p f n ≤ m * n := by
  intro n hn
  unfold St.sK
  refine sumR_bd2 (fun k hk => ?_)
  by_cases z : S.nr p k
  · rw [if_pos z]; exact hf k (by omega)
  · rw [if_neg z]; omega
theorem St.smN_b {S : St} (hS : S.Ok) {p : Nat} (hp : p < 40) (hl : S.loose p) : 0 < S.smN p ∧ S.smN p ≤ 40 := by
  have e := (S.sK_40 hS hp hl (fun _ => 1)).symm
  have b := S.sK_b (p := p) (f := fun _ => 1) (m := 1) (by decide) (fun _ _ => ⟨by decide, by decide⟩) 40 (Nat.le_refl _)
  have e : S.smN p = S.sK p (fun _ => 1) 40 := e
  refine ⟨?_, by omega⟩
  obtain ⟨v0, hv0, -, hE0⟩ := St.loose_v0 hS hp hl.1 (St.loose_b hl)
  have hnr := (St.loose_nr hS hp hl hv0).mpr hE0
  have h1 := sumR_mem (f := fun j => cI (S.nr p j)) (n := 40) (k := v0) (fun k _ => (cI_b (S.nr p k)).1) hv0
  rw [cI_y hnr] at h1
  have h2 : S.sK p (fun _ => 1) 40 = sumR 40 (fun j => cI (S.nr p j)) := rfl
  omega
theorem St.smX_sq {S : St} (hS : S.Ok) {p : Nat} (hp : p < 40) (hl : S.loose p) : inSq (S.smX p) (S.smY p) := by
  obtain ⟨n1, n2⟩ := S.smN_b hS hp hl
  have eN : S.smN p = S.sK p (fun _ => 1) 40 := (S.sK_40 hS hp hl (fun _ => 1)).symm
  have key : ∀ f : Nat → Int, (∀ j : Nat, j < 40 → -1000 ≤ f j ∧ f j ≤ 1000) → -1000 ≤ S.sE p f / S.smN p ∧ S.sE p f / S.smN p ≤ 1000 := by
    intro f hf
    refine ediv_bd n1 ?_
    rw [← S.sK_40 hS hp hl f, eN]
    have : ∀ n : Nat, n ≤ 40 → -(1000 * S.sK p (fun _ => 1) n) ≤ S.sK p f n ∧ S.sK p f n ≤ 1000 * S.sK p (fun _ => 1) n := by
      intro n
      induction n with
      | zero => intro _; exact ⟨(by decide : -(1000 * (0 : Int)) ≤ 0), (by decide : (0 : Int) ≤ 1000 * 0)⟩
      | succ n ih =>
        intro hn
        have h := ih (by omega)
        have g := hf n (by omega)
        by_cases z : S.nr p n
        · rw [St.sK_y z, St.sK_y z]; omega
        · rw [St.sK_n z, St.sK_n z]; exact h
    exact this 40 (Nat.le_refl _)
  have hx := key S.xs (fun j hj => by have := hS.B j hj; omega)
  have hy := key S.ys (fun j hj => by have := hS.B j hj; omega)
  exact ⟨hx.1, hx.2, hy.1, hy.2⟩
theorem eqv_loose {S T : St} {X : Sh} (hS : Rel S X) (hT : Rel T X) (oS : S.Ok) (oT : T.Ok) {p : Nat} (hp : p < 40) : T.loose p ↔ S.loose p := (hT.goes_iff oT hp).symm.trans (hS.goes_iff oS hp)
theorem eqv_sE {S T : St} (h : eqv S T) (oS : S.Ok) (oT : T.Ok) {p : Nat} (hp : p < 40) {f g : Nat → Int} (hfg : ∀ j : Nat, j < 40 → S.has j → g j = f j) : T.sE p g = S.sE p f := by
  unfold St.sE
  refine sumR_congr (fun j hj => ?_)
  have e := eqv_ap h oS oT (p * 40 + j) (by omega)
  by_cases z : S.E p j
  · have zT : T.E p j := by unfold St.E; rw [e]; exact z
    rw [if_pos z, if_pos zT]
    exact hfg j hj (St.E_has oS.M.1.PM hp hj z).2
  · have zT : ¬ T.E p j := by unfold St.E; rw [e]; exact z
    rw [if_neg z, if_neg zT]
theorem eqv_sm {S T : St} (h : eqv S T) (oS : S.Ok) (oT : T.Ok) {p : Nat} (hp : p < 40) : T.smX p = S.smX p ∧ T.smY p = S.smY p := by
  unfold St.smX St.smY St.smN
  rw [eqv_sE h oS oT hp (f := fun _ => 1) (g := fun _ => 1) (fun _ _ _ => rfl), eqv_sE h oS oT hp (fun j hj sj => (h.2.1 j hj sj).1), eqv_sE h oS oT hp (fun j hj sj => (h.2.1 j hj sj).2.1)]
  exact ⟨rfl, rfl⟩
/-- moved, to the sheet and to its mesh -/
theorem Rel.moved {S R T : St} {X : Sh} (h : Rel S X) {p : Nat} (hp : p < 40) {x y : Int} (oR : R.Ok) (hx : R.xs = S.xs ∧ R.ys = S.ys ∧ R.th = bClr S.th p ∧ R.fx = S.fx) (hr : S.rst R) (hl : R.laid T p x y) (ht : R.rst T) : Rel T ((X.uP p none).lays p x y (S.hs p)) := by
  have hR9 := Rel.drop h hp hx.1 hx.2.1 hx.2.2.1 hx.2.2.2 hr
  have hnp : ¬ R.has p := fun z => by unfold St.has at z; rw [hx.2.2.1, bt_clr (by omega), decide_eq_true rfl] at z; simp at z
  exact Rel.lays hR9 oR.M hp hnp hl (by rw [ht.1, hr.1]) (fun j _ => by rw [ht.1]) ht.2.2.2.1 ht.2.2.2.2
theorem sm1_two {S T : St} {X : Sh} (hS : Rel S X) (hT : Rel T X) (oS : S.Ok) (oT : T.Ok) {p c : Nat} (hp : p < 40) {S1 T1 : St} {c1 c2 : Nat} (h1 : sm1 S p c S1 c1) (h2 : sm1 T p c T1 c2) : c1 = c2 ∧ ∃ X1 : Sh, Rel S1 X1 ∧ Rel T1 X1 := by
  have he := eqv_of hS hT
  have hsm := eqv_sm he oS oT hp
  have hlo := eqv_loose hS hT oS oT hp
  have hat : T.atP (T.smX p) (T.smY p) = S.atP (S.smX p) (S.smY p) := by rw [hsm.1, hsm.2, hT.atP_at, hS.atP_at]
  have hiff : (T.loose p ∧ T.atP (T.smX p) (T.smY p) = -1) ↔ (S.loose p ∧ S.atP (S.smX p) (S.smY p) = -1) := by rw [hat, hlo]
  rcases h1 with ⟨a1, a2, ⟨R, oR, a3, a4, a5, a6⟩, rfl⟩ | ⟨a1, a2, rfl⟩
  · rcases h2 with ⟨b1, b2, ⟨R', oR', b3, b4, b5, b6⟩, rfl⟩ | ⟨b1, b2, rfl⟩
    · refine ⟨rfl, _, hS.moved hp oR a3 a4 a5 a6, ?_⟩
      have hm := hT.moved hp oR' b3 b4 b5 b6
      rw [hsm.1, hsm.2, (he.2.1 p hp a1.1).2.2] at hm
      exact hm
    · exact absurd (hiff.mpr ⟨a1, a2⟩) b1
  · rcases h2 with ⟨b1, b2, -⟩ | ⟨b1, b2, rfl⟩
    · exact absurd (hiff.mp ⟨b1, b2⟩) a1
    · exact ⟨rfl, X, hS.tld a2 oS, hT.tld b2 oT⟩
theorem smR_two : ∀ (d p : Nat) {S T : St} {X : Sh} {c : Nat} {S' T' : St} {c1 c2 : Nat}, p + d ≤ 40 → Rel S X → Rel T X → S.Ok → T.Ok → smR d p S c S' c1 → smR d p T c T' c2 → c1 = c2 ∧ ∀ X' : Sh, Rel T' X' → Rel S' X' := by
  intro d
  induction d with
  | zero =>
    intro p S T X c S' T' c1 c2 hd hS hT oS oT h1 h2
    obtain ⟨rfl, rfl⟩ := h1
    obtain ⟨rfl, rfl⟩ := h2
    exact ⟨rfl, fun X' h => eqv_rel (eqv_of hT hS) oT h⟩
  | succ d ih =>
    intro p S T X c S' T' c1 c2 hd hS hT oS oT h1 h2
    obtain ⟨S1, d1, o1, s1, r1⟩ := h1
    obtain ⟨T1, d2, o2, t1, r2⟩ := h2
    obtain ⟨rfl, X1, e1, e2⟩ := sm1_two hS hT oS oT (show p < 40 by omega) s1 t1
    exact ih (p + 1) (by omega) e1 e2 o1 o2 r1 r2
/-- the square's corners never go -/
theorem St.Ok.corner_fast {S : St} (h : S.Ok) {p : Nat} (hp : p < 4) : ¬ S.loose p := by
  obtain ⟨cs, c0, c1, c2, c3⟩ := h.Co
  have hs : S.has p ∧ S.onB p := by
    have : p = 0 ∨ p = 1 ∨ p = 2 ∨ p = 3 := by omega
    unfold St.onB
    rcases this with rfl | rfl | rfl | rfl
    · exact ⟨cs.1, by omega⟩
    · exact ⟨cs.2.1, by omega⟩
    · exact ⟨cs.2.2.1, by omega⟩
    · exact ⟨cs.2.2.2, by omega⟩
  intro hl
  obtain ⟨v, hv, v1, v2⟩ := h.M.1.2.2.2.2.2.2.2.1 p (by omega) hs.1 hs.2
  exact St.loose_b hl v hv (h.M.2.1.2 p v (by omega) hv v1 v2)
