/-! A POINT PUT IN: a mesh again. By hand. -/
theorem St.plc_x (S : St) (p : Nat) (x y : Int) {u : Nat} (h : u ≠ p) : (S.plc p x y).xs u = S.xs u := uZ_ne h
theorem St.plc_y (S : St) (p : Nat) (x y : Int) {u : Nat} (h : u ≠ p) : (S.plc p x y).ys u = S.ys u := uZ_ne h
theorem St.plc_xp (S : St) (p : Nat) (x y : Int) : (S.plc p x y).xs p = x := uZ_at _ _ _
theorem St.plc_yp (S : St) (p : Nat) (x y : Int) : (S.plc p x y).ys p = y := uZ_at _ _ _
theorem St.plc_has (S : St) {p : Nat} (x y : Int) (hp : p < 40) (u : Nat) : (S.plc p x y).has u ↔ S.has u ∨ u = p := by
  show bt (bSet S.th p) u = true ↔ _
  rw [bt_set (by omega)]
  simp
theorem St.plc_sd3 (S : St) (p : Nat) (x y : Int) {u v w : Nat} (hu : u ≠ p) (hv : v ≠ p) (hw : w ≠ p) : (S.plc p x y).sd3 u v w = S.sd3 u v w := by
  unfold St.sd3 St.sd
  rw [St.plc_x S p x y hu, St.plc_x S p x y hv, St.plc_x S p x y hw, St.plc_y S p x y hu, St.plc_y S p x y hv, St.plc_y S p x y hw]
theorem St.plc_sdp (S : St) (p : Nat) (x y : Int) {u v : Nat} (hu : u ≠ p) (hv : v ≠ p) : (S.plc p x y).sd3 u v p = S.sd u v x y := by
  unfold St.sd3 St.sd
  rw [St.plc_x S p x y hu, St.plc_x S p x y hv, St.plc_xp, St.plc_y S p x y hu, St.plc_y S p x y hv, St.plc_yp]
theorem St.plc_Hs (S : St) (p : Nat) (x y : Int) {u v : Nat} (hu : u ≠ p) (hv : v ≠ p) (X Y s : Int) : (S.plc p x y).Hs u v X Y s = S.Hs u v X Y s := by
  unfold St.Hs
  rw [St.plc_x S p x y hu, St.plc_x S p x y hv, St.plc_y S p x y hu, St.plc_y S p x y hv]
theorem St.plc_wd (S : St) (p : Nat) (x y : Int) {u v : Nat} (hu : u ≠ p) (hv : v ≠ p) (X Y s : Int) : (S.plc p x y).wd X Y s u v = S.wd X Y s u v := by
  unfold St.wd
  rw [St.plc_Hs S p x y hu hv, St.plc_x S p x y hu, St.plc_x S p x y hv]
/-- which points an edge that is there tells of -/
theorem St.E_has {S : St} (h : S.PM) {u v : Nat} (hu : u < 40) (hv : v < 40) (he : S.E u v) : S.has u ∧ S.has v := by
  have b1 := h.1 (u * 40 + v) (by omega)
  unfold St.E at he
  obtain ⟨c, hc⟩ := Int.eq_ofNat_of_zero_le (show 0 ≤ S.ap (u * 40 + v) by omega)
  obtain ⟨g1, g2, -⟩ := h.2.2 u v c hu hv (by omega) hc
  exact ⟨g1, g2⟩
theorem St.plc_Sg {S : St} (h : S.PM) {p : Nat} (x y : Int) (hnp : ¬ S.has p) {g g' : Nat → Nat → Int} (hg : ∀ u v : Nat, u ≠ p → v ≠ p → g u v = g' u v) : (S.plc p x y).Sg g = S.Sg g' := by
  apply sumR_congr
  intro e he
  show (if S.ap e = -1 then 0 else g (e / 40) (e % 40)) = (if S.ap e = -1 then 0 else g' (e / 40) (e % 40))
  by_cases c : S.ap e = -1
  · rw [if_pos c, if_pos c]
  · rw [if_neg c, if_neg c]
    obtain ⟨k1, k2⟩ := St.E_has h (u := e / 40) (v := e % 40) (by omega) (by omega) (by unfold St.E; rw [show e / 40 * 40 + e % 40 = e by omega]; exact c)
    exact hg _ _ (fun z => hnp (by rw [← z]; exact k1)) (fun z => hnp (by rw [← z]; exact k2))
theorem St.plc_Pre {S : St} (hM : S.Msh) {p : Nat} {x y : Int} (hp : p < 40) (hnp : ¬ S.has p) (hin : inSq x y) (hfree : ∀ q : Nat, q < 40 → S.has q → ¬ (S.xs q = x ∧ S.ys q = y)) : (S.plc p x y).Pre p := by
  obtain ⟨hG, ⟨hf1, hf2⟩, hE1, hE2⟩ := hM
  have hPM := hG.PM
  obtain ⟨hinB, hdi, hA, hcy, hpo, hcv, hbd, hbn, hal⟩ := hG
  have hne : ∀ u : Nat, S.has u → u ≠ p := fun u z w => hnp (by rw [← w]; exact z)
  have hEh : ∀ u v : Nat, u < 40 → v < 40 → S.E u v → u ≠ p ∧ v ≠ p := fun u v hu hv z => ⟨hne u (St.E_has hPM hu hv z).1, hne v (St.E_has hPM hu hv z).2⟩
  have hh := St.plc_has S x y hp
  refine ⟨⟨⟨hA, hcy, ?_⟩, ?_, ?_, ?_, ?_⟩, ⟨hp, (hh p).mpr (Or.inr rfl), ?_⟩, ?_, ?_, ⟨?_, ?_⟩, ?_, ?_⟩
  · intro a b c ha hb hc hz
    obtain ⟨g1, g2, g3, g4⟩ := hpo a b c ha hb hc hz
    exact ⟨(hh a).mpr (Or.inl g1), (hh b).mpr (Or.inl g2), (hh c).mpr (Or.inl g3), by rw [St.plc_sd3 S p x y (hne a g1) (hne b g2) (hne c g3)]; exact g4⟩
  · intro j hj
    have h1 := hinB j hj
    by_cases c : j = p
    · subst c
      rw [St.plc_xp, St.plc_yp]
      exact hin
    · rw [St.plc_x S p x y c, St.plc_y S p x y c]
      exact h1
  · intro u v hu hv su sv e1 e2
    rw [hh] at su sv
    by_cases cu : u = p
    · by_cases cv : v = p
      · omega
      · subst cu
        rw [St.plc_xp, St.plc_x S u x y cv] at e1
        rw [St.plc_yp, St.plc_y S u x y cv] at e2
        exact absurd ⟨e1.symm, e2.symm⟩ (hfree v hv (sv.resolve_right cv))
    · by_cases cv : v = p
      · subst cv
        rw [St.plc_xp, St.plc_x S v x y cu] at e1
        rw [St.plc_yp, St.plc_y S v x y cu] at e2
        exact absurd ⟨e1, e2⟩ (hfree u hu (su.resolve_right cu))
      · rw [St.plc_x S p x y cu, St.plc_x S p x y cv] at e1
        rw [St.plc_y S p x y cu, St.plc_y S p x y cv] at e2
        exact hdi u v hu hv (su.resolve_right cu) (sv.resolve_right cv) e1 e2
  · intro X Y s hg hi
    rw [St.plc_Sg hPM x y hnp (fun u v h1 h2 => St.plc_wd S p x y h1 h2 X Y s)]
    refine hcv X Y s ⟨hg.1, fun u hu su => ?_, fun u v hu hv su sv huv => ?_⟩ hi
    · have := hg.2.1 u hu ((hh u).mpr (Or.inl su))
      rw [St.plc_x S p x y (hne u su)] at this
      exact this
    · have := hg.2.2 u v hu hv ((hh u).mpr (Or.inl su)) ((hh v).mpr (Or.inl sv)) huv
      rw [St.plc_Hs S p x y (hne u su) (hne v sv)] at this
      exact this
  · intro u v hu hv y1 y2
    have k := hEh u v hu hv y1
    have := hbd u v hu hv y1 y2
    unfold St.onside at *
    rw [St.plc_x S p x y k.1, St.plc_x S p x y k.2, St.plc_y S p x y k.1, St.plc_y S p x y k.2]
    exact this
  · intro v hv
    exact ⟨fun z => (hEh p v hp hv z).1 rfl, fun z => (hEh v p hv hp z).2 rfl⟩
  · intro q hq hqp sq ob
    have ob2 : S.onB q := by
      unfold St.onB at *
      rw [St.plc_x S p x y hqp, St.plc_y S p x y hqp] at ob
      exact ob
    obtain ⟨v, hv, v1, v2⟩ := hbn q hq (((hh q).mp sq).resolve_right hqp) ob2
    exact ⟨v, hv, v1, St.nE.mpr v2⟩
  · intro q hq hqp sq
    exact hal q hq (((hh q).mp sq).resolve_right hqp)
  · intro u v hu hv huv
    obtain ⟨w1, w2, w3, w4⟩ := hf1 u v hu hv huv
    exact ⟨w1, (hh u).mpr (Or.inl w2), (hh v).mpr (Or.inl w3), w4⟩
  · intro u v hu hv y1 y2
    exact hf2 u v hu hv y1 y2
  · have e1 : (S.plc p x y).nV = S.nV + 1 := by
      unfold St.nV
      have e : ∀ k : Nat, k < 40 → (if (S.plc p x y).has k then (1 : Int) else 0) = (if k = p then 1 else if S.has k then 1 else 0) := by
        intro k _
        by_cases c : k = p
        · rw [if_pos ((hh k).mpr (Or.inr c)), if_pos c]
        · rw [if_neg c]
          by_cases c2 : S.has k
          · rw [if_pos ((hh k).mpr (Or.inl c2)), if_pos c2]
          · rw [if_neg (fun z => ((hh k).mp z).elim c2 c), if_neg c2]
      rw [sumR_congr e, sumR_upd (f := fun k => if S.has k then 1 else 0) hp, if_neg hnp]
      omega
    have e2 : (S.plc p x y).Bd = S.Bd := rfl
    have e3 : (S.plc p x y).SgT (fun _ _ _ => 1) = S.SgT (fun _ _ _ => 1) := rfl
    rw [e1, e2, e3, hE1]
    omega
  · rw [St.plc_Sg hPM x y hnp (g' := S.arf) (fun u v h1 h2 => by
      unfold St.arf
      rw [St.plc_x S p x y h1, St.plc_x S p x y h2, St.plc_y S p x y h1, St.plc_y S p x y h2])]
    exact hE2
theorem St.plc_w4 {S : St} (hG : S.Geo) {p : Nat} (x y : Int) (hnp : ¬ S.has p) (h4 : S.w4) : (S.plc p x y).w4 := by
  have hne : ∀ u : Nat, S.has u → u ≠ p := fun u z w => hnp (by rw [← w]; exact z)
  intro u v huv hv q1 q2 q3 q4
  obtain ⟨c, d, f1, f2, g1, g2, -⟩ := St.two hG (show u < 40 by omega) hv q1 q2
  refine h4 u v huv hv q1 q2 q3 ?_
  have f1' : (S.plc p x y).ap (u * 40 + v) = (c : Int) := f1
  have f2' : (S.plc p x y).ap (v * 40 + u) = (d : Int) := f2
  rw [f1', f2', Int.toNat_natCast, Int.toNat_natCast] at q4
  rw [f1, f2, Int.toNat_natCast, Int.toNat_natCast]
  have nu := hne u g2.1
  have nv := hne v g2.2.1
  have nc := hne c g2.2.2.1
  have nd := hne d g2.2.2.2
  have eah : ∀ a b : Nat, a ≠ p → b ≠ p → (S.plc p x y).ahead a b = S.ahead a b := by
    intro a b ha hb
    unfold St.ahead
    rw [St.plc_x S p x y ha, St.plc_x S p x y hb, St.plc_y S p x y ha, St.plc_y S p x y hb]
  have ean : ∀ a b : Nat, a ≠ p → b ≠ p → S.ahead a b ≠ p := by
    intro a b ha hb
    unfold St.ahead
    (repeat' split) <;> assumption
  have eli : ∀ a : Nat, a ≠ p → (S.plc p x y).liR a = S.liR a := by
    intro a ha
    unfold St.liR
    rw [St.plc_x S p x y ha, St.plc_y S p x y ha]
  have eU : (S.plc p x y).U (S.plc p x y).liR u v c d = S.U S.liR u v c d := by
    unfold St.U
    rw [eli u nu, eli v nv, eli c nc, eli d nd, St.plc_sd3 S p x y nd nv nc, St.plc_sd3 S p x y nd nc nu, St.plc_sd3 S p x y nd nu nv, St.plc_sd3 S p x y nu nv nc]
  intro z
  apply q4
  unfold St.alw at *
  rw [eU, eah u v nu nv, eah c d nc nd, eah _ _ (ean u v nu nv) (ean c d nc nd)]
  exact z
/-- what an insertion leaves -/
theorem St.ins_ok {S : St} (hM : S.Msh) (hq : S.wq) (h4 : S.w4) {p a b c : Nat} {x y : Int} (hp : p < 40) (hnp : ¬ S.has p) (hin : inSq x y) (hfree : ∀ q : Nat, q < 40 → S.has q → ¬ (S.xs q = x ∧ S.ys q = y)) (ha : a < 40) (hb : b < 40) (hc : c < 40) (h1 : S.ap (a * 40 + b) = (c : Int)) (s1 : 0 ≤ S.sd a b x y) (s2 : 0 ≤ S.sd b c x y) (s3 : 0 ≤ S.sd c a x y) :
    (S.ins0 p x y a b c).Msh ∧ (S.ins0 p x y a b c).wq ∧ (S.ins0 p x y a b c).w4 ∧ (S.ins0 p x y a b c).xs = (S.plc p x y).xs ∧ (S.ins0 p x y a b c).ys = (S.plc p x y).ys ∧ (S.ins0 p x y a b c).th = (S.plc p x y).th ∧
    ((0 < S.sd a b x y ∧ 0 < S.sd b c x y ∧ 0 < S.sd c a x y ∧ ∀ u v : Nat, u < 40 → v < 40 → ((S.ins0 p x y a b c).bound u v ↔ S.bound u v)) ∨ ∃ i j k : Nat, ((i = a ∧ j = b ∧ k = c) ∨ (i = b ∧ j = c ∧ k = a) ∨ (i = c ∧ j = a ∧ k = b)) ∧ S.sd i j x y = 0 ∧ 0 < S.sd j k x y ∧ 0 < S.sd k i x y ∧ ∀ u v : Nat, u < 40 → v < 40 → ((S.ins0 p x y a b c).bound u v ↔ (S.bound u v ∧ ¬ (S.bound i j ∧ eU i j u v)) ∨ (S.bound i j ∧ (eU i p u v ∨ eU j p u v)))) := by
  have hPre := St.plc_Pre hM hp hnp hin hfree
  have hw := St.plc_w4 hM.1 x y hnp h4
  have hPM := hM.1.PM
  obtain ⟨sa, sb, sc, g4⟩ := hPM.2.2 a b c ha hb hc h1
  obtain ⟨k1, k2⟩ := hPM.2.1 a b c ha hb hc h1
  obtain ⟨n1, n2, n3⟩ := St.pos_ne g4
  have hne : ∀ u : Nat, S.has u → u ≠ p := fun u z w => hnp (by rw [← w]; exact z)
  have na := hne a sa
  have nb := hne b sb
  have nc := hne c sc
  have e1 := St.plc_sdp S p x y na nb
  have e2 := St.plc_sdp S p x y nb nc
  have e3 := St.plc_sdp S p x y nc na
  have e4 := St.plc_sd3 S p x y na nb nc
  have ebd : ∀ u v : Nat, (S.plc p x y).bound u v ↔ S.bound u v := fun u v => Iff.rfl
  have h1' : (S.plc p x y).ap (a * 40 + b) = (c : Int) := h1
  have k1' : (S.plc p x y).ap (b * 40 + c) = (a : Int) := k1
  have k2' : (S.plc p x y).ap (c * 40 + a) = (b : Int) := k2
  have hq0 : (S.plc p x y).wq := hq
  have hha : (S.plc p x y).has a := (St.plc_has S x y hp a).mpr (Or.inl sa)
  have hhb : (S.plc p x y).has b := (St.plc_has S x y hp b).mpr (Or.inl sb)
  have hhc : (S.plc p x y).has c := (St.plc_has S x y hp c).mpr (Or.inl sc)
  unfold St.ins0
  rw [← e1] at s1
  rw [← e2] at s2
  rw [← e3] at s3
  rw [← e1, ← e2, ← e3]
  have ebd2 : ∀ u v : Nat, S.bound u v ↔ (S.plc p x y).bound u v := fun u v => Iff.rfl
  simp only [ebd2]
  have esd : ∀ u v : Nat, u ≠ p → v ≠ p → S.sd u v x y = (S.plc p x y).sd3 u v p := fun u v z1 z2 => (St.plc_sdp S p x y z1 z2).symm
  rw [← e4] at g4
  clear e1 e2 e3 e4 ebd ebd2 hM h4 hq hPM
  generalize S.plc p x y = T0 at *
  obtain ⟨⟨pPM, pB, pd, pcv, pbd⟩, ⟨-, sp, hpe⟩, -⟩ := id hPre
  have base := fun (T : St) (u v w : Nat) => St.not_two (S := T0) pd (a := u) (b := v) (c := w) (p := p)
  have g4b : 0 < T0.sd3 b c a := by rw [St.sd3_rot]; exact g4
  have g4c : 0 < T0.sd3 c a b := by rw [← St.sd3_rot]; exact g4
  -- a side on the line of which the point lies
  have noB : ∀ i j k : Nat, i < 40 → j < 40 → k < 40 → T0.ap (i * 40 + j) = (k : Int) → 0 < T0.sd3 i j k → T0.sd3 i j p = 0 → 0 < T0.sd3 j k p → 0 < T0.sd3 k i p → (T0.E j i → ¬ T0.onB p) ∧ (¬ T0.E j i → T0.onside i p ∧ T0.onside p j) := by
    intro i j k hi hj hk hz g z1 z2 z3
    have bi := pB i hi
    have bj := pB j hj
    have bk := pB k hk
    have bp := pB p hp
    have ex := T0.baryx i j k p
    have ey := T0.baryy i j k p
    have e0 := T0.bary0 i j k p
    rw [z1, Int.zero_mul, Int.add_zero] at ex ey
    rw [z1, Int.add_zero] at e0
    have mono : ∀ (w : Nat → Int) (K : Int), T0.sd3 i j k * w p = T0.sd3 j k p * w i + T0.sd3 k i p * w j → T0.sd3 i j k * (w p - K) = T0.sd3 j k p * (w i - K) + T0.sd3 k i p * (w j - K) := fun w K h => by
      rw [Int.mul_sub, Int.mul_sub, Int.mul_sub, h, e0, Int.add_mul]
      omega
    have mx := mono T0.xs
    have my := mono T0.ys
    -- both ends, where the point is
    have up : ∀ (w : Nat → Int) (K : Int), T0.sd3 i j k * (w p - K) = T0.sd3 j k p * (w i - K) + T0.sd3 k i p * (w j - K) → w p = K → ((w i ≤ K ∧ w j ≤ K) ∨ (K ≤ w i ∧ K ≤ w j)) → w i = K ∧ w j = K := by
      intro w K h hp2 hs
      rw [hp2, Int.sub_self, Int.mul_zero] at h
      rcases hs with ⟨l1, l2⟩ | ⟨l1, l2⟩
      · have q1 := Int.mul_nonpos_of_nonneg_of_nonpos (show 0 ≤ T0.sd3 j k p by omega) (show w i - K ≤ 0 by omega)
        have q2 := Int.mul_nonpos_of_nonneg_of_nonpos (show 0 ≤ T0.sd3 k i p by omega) (show w j - K ≤ 0 by omega)
        have r1 := (Int.mul_eq_zero.mp (show T0.sd3 j k p * (w i - K) = 0 by omega)).resolve_left (by omega)
        have r2 := (Int.mul_eq_zero.mp (show T0.sd3 k i p * (w j - K) = 0 by omega)).resolve_left (by omega)
        omega
      · have q1 := Int.mul_nonneg (show 0 ≤ T0.sd3 j k p by omega) (show 0 ≤ w i - K by omega)
        have q2 := Int.mul_nonneg (show 0 ≤ T0.sd3 k i p by omega) (show 0 ≤ w j - K by omega)
        have r1 := (Int.mul_eq_zero.mp (show T0.sd3 j k p * (w i - K) = 0 by omega)).resolve_left (by omega)
        have r2 := (Int.mul_eq_zero.mp (show T0.sd3 k i p * (w j - K) = 0 by omega)).resolve_left (by omega)
        omega
    constructor
    · intro hE hoB
      -- beyond the border there is no triangle
      have b1 := pPM.1 (j * 40 + i) (by omega)
      unfold St.E at hE
      obtain ⟨d, hd⟩ := Int.eq_ofNat_of_zero_le (show 0 ≤ T0.ap (j * 40 + i) by omega)
      obtain ⟨-, -, -, g5⟩ := pPM.2.2 j i d hj hi (by omega) hd
      have bd := pB d (by omega)
      have flatx : ∀ K : Int, T0.xs i = K → T0.xs j = K → ((T0.xs k ≤ K ∧ T0.xs d ≤ K) ∨ (K ≤ T0.xs k ∧ K ≤ T0.xs d)) → False := by
        intro K q1 q2 q3
        have r1 : T0.sd3 i j k = -(T0.ys j - T0.ys i) * (T0.xs k - K) := by unfold St.sd3 St.sd; rw [q1, q2]; grind
        have r2 : T0.sd3 j i d = (T0.ys j - T0.ys i) * (T0.xs d - K) := by unfold St.sd3 St.sd; rw [q1, q2]; grind
        rw [r1] at g
        rw [r2] at g5
        rcases Int.lt_trichotomy (T0.ys j - T0.ys i) 0 with t | t | t
        · rcases q3 with q3 | q3
          · have := Int.mul_nonpos_of_nonneg_of_nonpos (show 0 ≤ -(T0.ys j - T0.ys i) by omega) (show T0.xs k - K ≤ 0 by omega); omega
          · have := Int.mul_nonpos_of_nonpos_of_nonneg (show (T0.ys j - T0.ys i) ≤ 0 by omega) (show 0 ≤ T0.xs d - K by omega); omega
        · rw [t, Int.zero_mul] at g5; omega
        · rcases q3 with q3 | q3
          · have := Int.mul_nonpos_of_nonneg_of_nonpos (show 0 ≤ (T0.ys j - T0.ys i) by omega) (show T0.xs d - K ≤ 0 by omega); omega
          · have := Int.mul_nonpos_of_nonpos_of_nonneg (show -(T0.ys j - T0.ys i) ≤ 0 by omega) (show 0 ≤ T0.xs k - K by omega); omega
      have flaty : ∀ K : Int, T0.ys i = K → T0.ys j = K → ((T0.ys k ≤ K ∧ T0.ys d ≤ K) ∨ (K ≤ T0.ys k ∧ K ≤ T0.ys d)) → False := by
        intro K q1 q2 q3
        have r1 : T0.sd3 i j k = (T0.xs j - T0.xs i) * (T0.ys k - K) := by unfold St.sd3 St.sd; rw [q1, q2]; grind
        have r2 : T0.sd3 j i d = -(T0.xs j - T0.xs i) * (T0.ys d - K) := by unfold St.sd3 St.sd; rw [q1, q2]; grind
        rw [r1] at g
        rw [r2] at g5
        rcases Int.lt_trichotomy (T0.xs j - T0.xs i) 0 with t | t | t
        · rcases q3 with q3 | q3
          · have := Int.mul_nonpos_of_nonneg_of_nonpos (show 0 ≤ -(T0.xs j - T0.xs i) by omega) (show T0.ys d - K ≤ 0 by omega); omega
          · have := Int.mul_nonpos_of_nonpos_of_nonneg (show (T0.xs j - T0.xs i) ≤ 0 by omega) (show 0 ≤ T0.ys k - K by omega); omega
        · rw [t, Int.zero_mul] at g; omega
        · rcases q3 with q3 | q3
          · have := Int.mul_nonpos_of_nonneg_of_nonpos (show 0 ≤ (T0.xs j - T0.xs i) by omega) (show T0.ys k - K ≤ 0 by omega); omega
          · have := Int.mul_nonpos_of_nonpos_of_nonneg (show -(T0.xs j - T0.xs i) ≤ 0 by omega) (show 0 ≤ T0.ys d - K by omega); omega
      rcases hoB with q | q | q | q
      · obtain ⟨r1, r2⟩ := up T0.xs 1000 (mx 1000 ex) q (Or.inl ⟨by omega, by omega⟩)
        exact flatx 1000 r1 r2 (Or.inl ⟨by omega, by omega⟩)
      · obtain ⟨r1, r2⟩ := up T0.xs (-1000) (mx (-1000) ex) q (Or.inr ⟨by omega, by omega⟩)
        exact flatx (-1000) r1 r2 (Or.inr ⟨by omega, by omega⟩)
      · obtain ⟨r1, r2⟩ := up T0.ys 1000 (my 1000 ey) q (Or.inl ⟨by omega, by omega⟩)
        exact flaty 1000 r1 r2 (Or.inl ⟨by omega, by omega⟩)
      · obtain ⟨r1, r2⟩ := up T0.ys (-1000) (my (-1000) ey) q (Or.inr ⟨by omega, by omega⟩)
        exact flaty (-1000) r1 r2 (Or.inr ⟨by omega, by omega⟩)
    · intro hE
      have o := pbd i j hi hj (by omega) (St.nE.mp hE)
      -- the point lies on the same line, between
      have eq0 : ∀ (w : Nat → Int) (K : Int), T0.sd3 i j k * (w p - K) = T0.sd3 j k p * (w i - K) + T0.sd3 k i p * (w j - K) → w i = K → w j = K → w p = K := by
        intro w K h q1 q2
        rw [q1, q2, Int.sub_self, Int.mul_zero, Int.mul_zero] at h
        have := (Int.mul_eq_zero.mp (show T0.sd3 i j k * (w p - K) = 0 by omega)).resolve_left (by omega)
        omega
      have lt0 : ∀ (w : Nat → Int), T0.sd3 i j k * w p = T0.sd3 j k p * w i + T0.sd3 k i p * w j → w i < w j → w i < w p ∧ w p < w j := by
        intro w h hl
        have m1 := mono w (w i) h
        have m2 := mono w (w j) h
        rw [Int.sub_self, Int.mul_zero] at m1 m2
        have p1 := Int.mul_pos z3 (show 0 < w j - w i by omega)
        have p2 := Int.mul_neg_of_pos_of_neg z2 (show w i - w j < 0 by omega)
        constructor
        · rcases Int.lt_or_le 0 (w p - w i) with t | t
          · omega
          · have := Int.mul_nonpos_of_nonneg_of_nonpos (show 0 ≤ T0.sd3 i j k by omega) t; omega
        · rcases Int.lt_or_le (w p - w j) 0 with t | t
          · omega
          · have := Int.mul_nonneg (show 0 ≤ T0.sd3 i j k by omega) t; omega
      have gt0 : ∀ (w : Nat → Int), T0.sd3 i j k * w p = T0.sd3 j k p * w i + T0.sd3 k i p * w j → w j < w i → w j < w p ∧ w p < w i := by
        intro w h hl
        have m1 := mono w (w i) h
        have m2 := mono w (w j) h
        rw [Int.sub_self, Int.mul_zero] at m1 m2
        have p1 := Int.mul_neg_of_pos_of_neg z3 (show w j - w i < 0 by omega)
        have p2 := Int.mul_pos z2 (show 0 < w i - w j by omega)
        constructor
        · rcases Int.lt_or_le 0 (w p - w j) with t | t
          · omega
          · have := Int.mul_nonpos_of_nonneg_of_nonpos (show 0 ≤ T0.sd3 i j k by omega) t; omega
        · rcases Int.lt_or_le (w p - w i) 0 with t | t
          · omega
          · have := Int.mul_nonneg (show 0 ≤ T0.sd3 i j k by omega) t; omega
      rcases o with ⟨q1, q2, q3⟩ | ⟨q1, q2, q3⟩ | ⟨q1, q2, q3⟩ | ⟨q1, q2, q3⟩
      · have r := eq0 T0.ys _ (my _ ey) q1 q2
        have t := lt0 T0.xs ex q3
        exact ⟨Or.inl ⟨q1, r, t.1⟩, Or.inl ⟨r, q2, t.2⟩⟩
      · have r := eq0 T0.xs _ (mx _ ex) q1 q2
        have t := lt0 T0.ys ey q3
        exact ⟨Or.inr (Or.inl ⟨q1, r, t.1⟩), Or.inr (Or.inl ⟨r, q2, t.2⟩)⟩
      · have r := eq0 T0.ys _ (my _ ey) q1 q2
        have t := gt0 T0.xs ex q3
        exact ⟨Or.inr (Or.inr (Or.inl ⟨q1, r, t.2⟩)), Or.inr (Or.inr (Or.inl ⟨r, q2, t.1⟩))⟩
      · have r := eq0 T0.xs _ (mx _ ex) q1 q2
        have t := gt0 T0.ys ey q3
        exact ⟨Or.inr (Or.inr (Or.inr ⟨q1, r, t.2⟩)), Or.inr (Or.inr (Or.inr ⟨r, q2, t.1⟩))⟩
  have side : ∀ (T : St) (i j k : Nat), i < 40 → j < 40 → k < 40 → nodup3 i j k → (i ≠ p ∧ j ≠ p ∧ k ≠ p) → T0.ap (i * 40 + j) = (k : Int) → 0 < T0.sd3 i j k → (T0.RC T i j k p ∨ ∃ d : Nat, T0.RB T i j k d p) → T.Msh ∧ T.wq ∧ T.w4 ∧ T.xs = T0.xs ∧ T.ys = T0.ys ∧ T.th = T0.th ∧ (T0.sd3 i j p = 0 ∧ 0 < T0.sd3 j k p ∧ 0 < T0.sd3 k i p ∧ ∀ u v : Nat, u < 40 → v < 40 → (T.bound u v ↔ (T0.bound u v ∧ ¬ (T0.bound i j ∧ eU i j u v)) ∨ (T0.bound i j ∧ (eU i p u v ∨ eU j p u v)))) := by
    intro T i j k hi hj hk hn hnp2 hz g hr
    have Eij : T0.E i j := by unfold St.E; omega
    rcases hr with ⟨⟨z1, z2, z3, z4⟩, st⟩ | ⟨d, ⟨z1, z2, z3, hd4, z4, sd, d1, d2, d3, d4⟩, st⟩
    · have o := (noB i j k hi hj hk hz g z1 z2 z3).2 z4
      exact ⟨St.Msh_rim hPre ⟨hi, hj, hk⟩ hn hnp2 st (fun g _ => rfl) Eij z4 z1 o, st.2.2.2.2.1, st.2.2.2.2.2.1 hw, st.2.1, st.2.2.1, st.2.2.2.1, z1, z2, z3, fun u v hu hv => st.bd hu hv⟩
    · have o := (noB i j k hi hj hk hz g z1 z2 z3).1 z4
      obtain ⟨hasi, hasj⟩ := St.E_has pPM hi hj Eij
      refine ⟨St.Msh_ring hPre st (fun g _ => rfl) o ⟨i, hi, Or.inl rfl⟩ ?_ ?_ ?_, st.2.2.2.2.1, st.2.2.2.2.2.1 hw, st.2.1, st.2.2.1, st.2.2.2.1, z1, z2, z3, fun u v hu hv => st.bd hu hv⟩
      · intro u v _ _ huv
        rcases huv with ⟨r1, r2⟩ | ⟨r1, r2⟩
        · rw [r1, r2]; exact ⟨Or.inr ⟨rfl, rfl⟩, Eij, z4, Or.inl rfl⟩
        · rw [r1, r2]; exact ⟨Or.inl ⟨rfl, rfl⟩, z4, Eij, Or.inr (Or.inl rfl)⟩
      · intro u v _ _ huv
        obtain ⟨b0, (⟨r1, r2⟩ | ⟨r1, r2⟩) | (⟨r1, r2⟩ | ⟨r1, r2⟩)⟩ := huv
        · rw [r1, r2]; exact ⟨⟨b0, Or.inl (Or.inr ⟨rfl, rfl⟩)⟩, hasi, sp, Or.inr ⟨rfl, Or.inl rfl⟩⟩
        · rw [r1, r2]; exact ⟨⟨b0, Or.inl (Or.inl ⟨rfl, rfl⟩)⟩, sp, hasi, Or.inl ⟨rfl, Or.inl rfl⟩⟩
        · rw [r1, r2]; exact ⟨⟨b0, Or.inr (Or.inr ⟨rfl, rfl⟩)⟩, hasj, sp, Or.inr ⟨rfl, Or.inr (Or.inl rfl)⟩⟩
        · rw [r1, r2]; exact ⟨⟨b0, Or.inr (Or.inl ⟨rfl, rfl⟩)⟩, sp, hasj, Or.inl ⟨rfl, Or.inr (Or.inl rfl)⟩⟩
      · intro u v hu hv
        refine ⟨fun q => ⟨?_, q.2⟩, fun q => ⟨⟨q.1, q.2.elim (fun r => Or.inr ⟨r.2, r.1⟩) (fun r => Or.inl ⟨r.2, r.1⟩)⟩, q.2⟩⟩
        rcases q.2 with ⟨r1, r2⟩ | ⟨r1, r2⟩
        · have := q.1; rw [r1, r2] at this; exact this
        · have := q.1; rw [r1, r2] at this; exact (hPre.2.2.2.2.1.1 j i hj hi this).1
  rcases Int.lt_or_eq_of_le s1 with t1 | t1
  · rcases Int.lt_or_eq_of_le s2 with t2 | t2
    · rcases Int.lt_or_eq_of_le s3 with t3 | t3
      · have st := St.put_N pPM hq0 pd ha hb hc hp sp hpe h1' ⟨na, nb, nc⟩ t1 t2 t3
        have onp : ¬ T0.onB p := by
          intro hoB
          have bi := pB a ha
          have bj := pB b hb
          have bk := pB c hc
          have ex := T0.baryx a b c p
          have ey := T0.baryy a b c p
          have e0 := T0.bary0 a b c p
          have mono : ∀ (w : Nat → Int) (K : Int), T0.sd3 a b c * w p = T0.sd3 b c p * w a + T0.sd3 c a p * w b + T0.sd3 a b p * w c → w p = K → ((w a ≤ K ∧ w b ≤ K ∧ w c ≤ K) ∨ (K ≤ w a ∧ K ≤ w b ∧ K ≤ w c)) → w a = K ∧ w b = K ∧ w c = K := by
            intro w K h hK hs
            have h2 : T0.sd3 b c p * (w a - K) + T0.sd3 c a p * (w b - K) + T0.sd3 a b p * (w c - K) = 0 := by
              rw [hK, e0, Int.add_mul, Int.add_mul] at h
              rw [Int.mul_sub, Int.mul_sub, Int.mul_sub]
              omega
            rcases hs with ⟨l1, l2, l3⟩ | ⟨l1, l2, l3⟩
            · have q1 := Int.mul_nonpos_of_nonneg_of_nonpos (show 0 ≤ T0.sd3 b c p by omega) (show w a - K ≤ 0 by omega)
              have q2 := Int.mul_nonpos_of_nonneg_of_nonpos (show 0 ≤ T0.sd3 c a p by omega) (show w b - K ≤ 0 by omega)
              have q3 := Int.mul_nonpos_of_nonneg_of_nonpos (show 0 ≤ T0.sd3 a b p by omega) (show w c - K ≤ 0 by omega)
              have r1 := (Int.mul_eq_zero.mp (show T0.sd3 b c p * (w a - K) = 0 by omega)).resolve_left (by omega)
              have r2 := (Int.mul_eq_zero.mp (show T0.sd3 c a p * (w b - K) = 0 by omega)).resolve_left (by omega)
              have r3 := (Int.mul_eq_zero.mp (show T0.sd3 a b p * (w c - K) = 0 by omega)).resolve_left (by omega)
              omega
            · have q1 := Int.mul_nonneg (show 0 ≤ T0.sd3 b c p by omega) (show 0 ≤ w a - K by omega)
              have q2 := Int.mul_nonneg (show 0 ≤ T0.sd3 c a p by omega) (show 0 ≤ w b - K by omega)
              have q3 := Int.mul_nonneg (show 0 ≤ T0.sd3 a b p by omega) (show 0 ≤ w c - K by omega)
              have r1 := (Int.mul_eq_zero.mp (show T0.sd3 b c p * (w a - K) = 0 by omega)).resolve_left (by omega)
              have r2 := (Int.mul_eq_zero.mp (show T0.sd3 c a p * (w b - K) = 0 by omega)).resolve_left (by omega)
              have r3 := (Int.mul_eq_zero.mp (show T0.sd3 a b p * (w c - K) = 0 by omega)).resolve_left (by omega)
              omega
          have fx : ∀ K : Int, ¬ (T0.xs a = K ∧ T0.xs b = K ∧ T0.xs c = K) := fun K z => by
            have : T0.sd3 a b c = 0 := by unfold St.sd3 St.sd; rw [z.1, z.2.1, z.2.2]; simp
            omega
          have fy : ∀ K : Int, ¬ (T0.ys a = K ∧ T0.ys b = K ∧ T0.ys c = K) := fun K z => by
            have : T0.sd3 a b c = 0 := by unfold St.sd3 St.sd; rw [z.1, z.2.1, z.2.2]; simp
            omega
          rcases hoB with q | q | q | q
          · exact fx _ (mono T0.xs 1000 ex q (Or.inl ⟨by omega, by omega, by omega⟩))
          · exact fx _ (mono T0.xs (-1000) ex q (Or.inr ⟨by omega, by omega, by omega⟩))
          · exact fy _ (mono T0.ys 1000 ey q (Or.inl ⟨by omega, by omega, by omega⟩))
          · exact fy _ (mono T0.ys (-1000) ey q (Or.inr ⟨by omega, by omega, by omega⟩))
        refine ⟨St.Msh_ring hPre st (fun g _ => rfl) onp ⟨a, ha, Or.inl rfl⟩ (fun u v _ _ z => z.elim) (fun u v _ _ z => z.elim) (fun u v _ _ => ⟨fun z => z.2.elim, fun z => z.elim⟩), st.2.2.2.2.1, st.2.2.2.2.2.1 hw, st.2.1, st.2.2.1, st.2.2.2.1, Or.inl ⟨t1, t2, t3, fun u v hu hv => (st.bd hu hv).trans ?_⟩⟩
        simp [no2]
      · obtain ⟨m1, m2, m3, m4, m5, m6, m7, m8, m9, m10⟩ := side _ c a b hc ha hb ⟨n3, n1, n2⟩ ⟨nc, na, nb⟩ k2' g4c (St.put_3 pPM hq0 pd ha hb hc hp sp hpe h1' ⟨na, nb, nc⟩ t1 t2 t3.symm)
        exact ⟨m1, m2, m3, m4, m5, m6, Or.inr ⟨c, a, b, Or.inr (Or.inr ⟨rfl, rfl, rfl⟩), by rw [esd c a nc na]; exact m7, by rw [esd a b na nb]; exact m8, by rw [esd b c nb nc]; exact m9, m10⟩⟩
    · have t3 : 0 < T0.sd3 c a p := by
        rcases Int.lt_or_eq_of_le s3 with t3 | t3
        · exact t3
        · exact (St.not_two pd hc hp hhc sp nc g4b t2.symm t3.symm).elim
      obtain ⟨m1, m2, m3, m4, m5, m6, m7, m8, m9, m10⟩ := side _ b c a hb hc ha ⟨n2, n3, n1⟩ ⟨nb, nc, na⟩ k1' g4b (St.put_2 pPM hq0 pd ha hb hc hp sp hpe h1' ⟨na, nb, nc⟩ t1 t2.symm t3)
      exact ⟨m1, m2, m3, m4, m5, m6, Or.inr ⟨b, c, a, Or.inr (Or.inl ⟨rfl, rfl, rfl⟩), by rw [esd b c nb nc]; exact m7, by rw [esd c a nc na]; exact m8, by rw [esd a b na nb]; exact m9, m10⟩⟩
  · have t2 : 0 < T0.sd3 b c p := by
      rcases Int.lt_or_eq_of_le s2 with t2 | t2
      · exact t2
      · exact (St.not_two pd hb hp hhb sp nb g4 t1.symm t2.symm).elim
    have t3 : 0 < T0.sd3 c a p := by
      rcases Int.lt_or_eq_of_le s3 with t3 | t3
      · exact t3
      · exact (St.not_two pd ha hp hha sp na g4c t3.symm t1.symm).elim
    obtain ⟨m1, m2, m3, m4, m5, m6, m7, m8, m9, m10⟩ := side _ a b c ha hb hc ⟨n1, n2, n3⟩ ⟨na, nb, nc⟩ h1' g4 (St.put_1 pPM hq0 pd ha hb hc hp sp hpe h1' ⟨na, nb, nc⟩ t1.symm t2 t3)
    exact ⟨m1, m2, m3, m4, m5, m6, Or.inr ⟨a, b, c, Or.inl ⟨rfl, rfl, rfl⟩, by rw [esd a b na nb]; exact m7, by rw [esd b c nb nc]; exact m8, by rw [esd c a nc na]; exact m9, m10⟩⟩
