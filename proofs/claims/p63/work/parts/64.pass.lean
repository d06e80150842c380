/-! A PASS of flips across a line: it ends, for fewer are left with each. By hand. -/
theorem St.U_sym (S : St) (L : Nat → Int) (u v c d : Nat) : S.U L v u d c = S.U L u v c d := by
  unfold St.U St.sd3 St.sd
  grind
theorem St.U_add (S : St) (K : Int) (l h : Nat → Int) (a b c d : Nat) : S.U (fun p => K * l p + h p) a b c d = K * S.U l a b c d + S.U h a b c d := by
  unfold St.U
  grind
def St.LF (S : St) (a b : Nat) : Nat → Int := fun p => 1000000000000000 * S.liS a b p + S.liR p
theorem zabs_ge (x : Int) : x ≤ zabs x ∧ -x ≤ zabs x := by
  unfold zabs
  split <;> omega
theorem St.scv_LF {S : St} (hd : S.dist) (a b : Nat) : S.scv (S.LF a b) := by
  have h0 : S.scv S.liR := St.scv_sq hd (K := 1) (h := fun _ => 0) (fun p _ => by show S.liR p = 1 * S.liR p - 0; omega) (by decide) (fun p _ => ⟨by decide, by decide⟩)
  intro q p1 p2 p3 p4 hb hs hn w1 w2 w3 w4 W hw hW hsum hx hy
  have k := h0 q p1 p2 p3 p4 hb hs hn w1 w2 w3 w4 W hw hW hsum hx hy
  have aff : w1 * S.sd3 a b p1 + w2 * S.sd3 a b p2 + w3 * S.sd3 a b p3 + w4 * S.sd3 a b p4 = W * S.sd3 a b q := by
    unfold St.sd3 St.sd
    grind
  have one : ∀ (w x : Int), 0 ≤ w → w * x ≤ w * zabs x ∧ -(w * x) ≤ w * zabs x := by
    intro w x h
    have g := zabs_ge x
    have m1 := Int.mul_le_mul_of_nonneg_left g.1 h
    have m2 := Int.mul_le_mul_of_nonneg_left g.2 h
    rw [Int.mul_neg] at m2
    exact ⟨m1, m2⟩
  have o1 := one w1 (S.sd3 a b p1) hw.1
  have o2 := one w2 (S.sd3 a b p2) hw.2.1
  have o3 := one w3 (S.sd3 a b p3) hw.2.2.1
  have o4 := one w4 (S.sd3 a b p4) hw.2.2.2
  have tri : W * zabs (S.sd3 a b q) ≤ w1 * zabs (S.sd3 a b p1) + w2 * zabs (S.sd3 a b p2) + w3 * zabs (S.sd3 a b p3) + w4 * zabs (S.sd3 a b p4) := by
    rcases Int.le_total 0 (S.sd3 a b q) with z | z
    · have : zabs (S.sd3 a b q) = S.sd3 a b q := by unfold zabs; rw [if_neg (by omega)]
      rw [this]
      omega
    · have : zabs (S.sd3 a b q) = -S.sd3 a b q := by unfold zabs; split <;> omega
      rw [this, Int.mul_neg]
      omega
  have e : ∀ (w : Int) (p : Nat), w * S.LF a b p = 1000000000000000 * (w * zabs (S.sd3 a b p)) + w * S.liR p := by
    intro w p
    show w * (1000000000000000 * zabs (S.sd3 a b p) + S.liR p) = _
    rw [Int.mul_add]
    grind
  rw [e, e, e, e, e]
  omega
theorem St.U_bd {S : St} (hB : S.inB) {a b c d : Nat} (ha : a < 40) (hb : b < 40) (hc : c < 40) (hd : d < 40) : -256000000000000 ≤ S.U S.liR a b c d ∧ S.U S.liR a b c d ≤ 256000000000000 := by
  have one : ∀ (x : Int) (p : Nat), p < 40 → -8000000 ≤ x → x ≤ 8000000 → -(8000000 * 8000000) ≤ x * S.liR p ∧ x * S.liR p ≤ 8000000 * 8000000 := by
    intro x p hp x1 x2
    have := St.liR_b hB hp
    exact mul_bd x1 x2 (by omega) (by omega) (by decide) (by decide)
  have b1 := St.sd3_bd hB (a := d) (b := b) (c := c) hd hb hc
  have b2 := St.sd3_bd hB (a := a) (b := d) (c := c) ha hd hc
  have b3 := St.sd3_bd hB (a := b) (b := a) (c := d) hb ha hd
  have b4 := St.sd3_bd hB (a := a) (b := b) (c := c) ha hb hc
  have o1 := one _ a ha b1.1 b1.2
  have o2 := one _ b hb b2.1 b2.2
  have o3 := one _ c hc b3.1 b3.2
  have o4 := one _ d hd b4.1 b4.2
  rw [St.U_4]
  omega
theorem St.U_LF {S : St} (hB : S.inB) {a b u v c d : Nat} (hb : u < 40 ∧ v < 40 ∧ c < 40 ∧ d < 40) (h : 0 < S.U (S.liS a b) u v c d) : 0 < S.U (S.LF a b) u v c d := by
  have e : S.U (S.LF a b) u v c d = 1000000000000000 * S.U (S.liS a b) u v c d + S.U S.liR u v c d := S.U_add _ _ _ _ _ _ _
  have := St.U_bd hB hb.1 hb.2.1 hb.2.2.1 hb.2.2.2
  omega
/-- an edge that a pass flips -/
def St.FL (S : St) (a b u v : Nat) : Prop := (S.ap (u * 40 + v) ≠ -1 ∧ S.ap (v * 40 + u) ≠ -1) ∧ S.cut u v (S.xs a) (S.ys a) (S.xs b) (S.ys b) ∧ 0 < S.und u v (S.ap (u * 40 + v)).toNat (S.xs (S.ap (v * 40 + u)).toNat) (S.ys (S.ap (v * 40 + u)).toNat) (S.li (S.ap (v * 40 + u)).toNat)
/-- no fixed edge crosses the line from a to b -/
def St.free2 (S : St) (a b : Nat) : Prop := ∀ u v : Nat, u < 40 → v < 40 → S.bound u v → ¬ S.cut u v (S.xs a) (S.ys a) (S.xs b) (S.ys b)
def St.FG (S T : St) : Prop := T.Msh ∧ T.wI ∧ T.wq ∧ T.w4 ∧ S.sameO T
theorem St.w4x_mono {S : St} {P Q : Nat → Nat → Prop} (h : S.w4x P) (hPQ : ∀ x y : Nat, P x y → Q x y) : S.w4x Q := fun x y hxy hy q1 q2 q3 q4 => (h x y hxy hy q1 q2 q3 q4).elim (fun z => Or.inl z) (fun z => Or.inr (hPQ x y z))
theorem St.fcy_fl {S T : St} {a b u v : Nat} (hu : u < 40) (hv : v < 40) (hli : ∀ j : Nat, j < 40 → S.li j = S.liS a b j) (hX : S.free2 a b) (h : S.FG T) (hf : T.FL a b u v) : S.FG (T.fcy a b u v) ∧ (T.fcy a b u v).Phi (S.LF a b) < T.Phi (S.LF a b) := by
  obtain ⟨hM, hI, hq, h4, hO⟩ := h
  have e : T.fcy a b u v = T.flip u v (T.ap (u * 40 + v)).toNat (T.ap (v * 40 + u)).toNat := if_pos hf
  obtain ⟨⟨q1, q2⟩, q3, q4⟩ := hf
  obtain ⟨c, d, f1, f2, g1, g2, g3, g4, g5⟩ := St.two hM.1 hu hv q1 q2
  rw [f1, f2, Int.toNat_natCast, Int.toNat_natCast] at e q4
  rw [e]
  have hO' := hO
  obtain ⟨ap, wa, qu, qn, es⟩ := hO
  have hli2 : ∀ j : Nat, j < 40 → T.li j = T.liS a b j := by rw [es]; exact hli
  have hX2 : T.free2 a b := by rw [es]; exact hX
  have eL : S.LF a b = T.LF a b := by rw [es]; rfl
  rw [St.und_U, St.U_congr T hli2 g1] at q4
  have hU := St.U_LF hM.1.1 g1 q4
  have hs := St.scv_LF hM.1.2.1 a b
  have quad := St.two_quad hM.1 hs g1 f1 f2 (by omega)
  have nb : ¬ T.bound u v := fun z => hX2 u v hu hv z q3
  obtain ⟨w0, -⟩ := St.flip_wq hq g1.1 g1.2.1 g1.2.2.1 g1.2.2.2 g3
  refine ⟨⟨St.Msh_flip hM quad nb, St.flip_wI g1.1 g1.2.1 g1.2.2.1 g1.2.2.2 hI, w0.1, St.w4_flip g1 g3 hq (St.w4x_mono h4 (fun x y z => z.elim)), St.sameO_trans hO' (St.flip_st T u v c d)⟩, ?_⟩
  rw [eL]
  exact St.Phi_flip hM.1 hs quad hU
theorem St.fcl_ok {S : St} {a b E : Nat} (hE : E ≤ 113) (hN : S.okN) (hli : ∀ j : Nat, j < 40 → S.li j = S.liS a b j) (hX : S.free2 a b) : ∀ (d e : Nat) {T : St}, e + d = E → S.FG T → S.FG (St.fcl a b d e T) ∧ (St.fcl a b d e T).Phi (S.LF a b) ≤ T.Phi (S.LF a b) ∧ ((∃ k : Nat, e ≤ k ∧ k < e + d ∧ T.FL a b (S.e1 k) (S.e2 k)) → (St.fcl a b d e T).Phi (S.LF a b) < T.Phi (S.LF a b)) := by
  intro d
  induction d with
  | zero =>
    intro e T _ h
    exact ⟨h, Int.le_refl _, fun ⟨k, k1, k2, _⟩ => by omega⟩
  | succ d ih =>
    intro e T he h
    have en : T.e1 e = S.e1 e ∧ T.e2 e = S.e2 e := by
      obtain ⟨ap, wa, qu, qn, es⟩ := h.2.2.2.2
      rw [es]
      exact ⟨rfl, rfl⟩
    have e0 : St.fcl a b (d + 1) e T = St.fcl a b d (e + 1) (T.fcy a b (S.e1 e) (S.e2 e)) := by
      show St.fcl a b d (e + 1) (T.fcy a b (T.e1 e) (T.e2 e)) = _
      rw [en.1, en.2]
    rw [e0]
    by_cases c : T.FL a b (S.e1 e) (S.e2 e)
    · obtain ⟨k1, k2⟩ := St.fcy_fl (St.e1_lt hN (by omega)) (St.e2_lt hN (by omega)) hli hX h c
      obtain ⟨l1, l2, l3⟩ := ih (e + 1) (by omega) k1
      exact ⟨l1, by omega, fun _ => by omega⟩
    · have e1 : T.fcy a b (S.e1 e) (S.e2 e) = T := if_neg c
      rw [e1]
      obtain ⟨l1, l2, l3⟩ := ih (e + 1) (by omega) h
      refine ⟨l1, l2, fun ⟨k, k1, k2, k3⟩ => l3 ⟨k, ?_, by omega, k3⟩⟩
      by_cases z : k = e
      · rw [z] at k3; exact absurd k3 c
      · omega
theorem St.cut_of {S : St} {a b u v : Nat} (h : S.crs a b u v) : S.cut u v (S.xs a) (S.ys a) (S.xs b) (S.ys b) ∧ S.cut v u (S.xs a) (S.ys a) (S.xs b) (S.ys b) := by
  obtain ⟨h1, h2, h3, h4, h5⟩ := h
  have w1 := S.sd3_swap u v a
  have w2 := S.sd3_swap u v b
  have t : ∀ q : Nat, tn6 (S.xs a) (S.ys a) (S.xs b) (S.ys b) (S.xs q) (S.ys q) = S.sd3 a b q := fun q => rfl
  have s : ∀ x y q : Nat, S.sd x y (S.xs q) (S.ys q) = S.sd3 x y q := fun x y q => rfl
  unfold St.cut
  rw [t, t, s, s, s, s]
  exact ⟨⟨Or.inr ⟨h4, h5⟩, Or.inl ⟨h2, h3⟩⟩, ⟨Or.inl ⟨by omega, by omega⟩, Or.inr ⟨h3, h2⟩⟩⟩
/-- where a and b are no edge, a pass flips at least one -/
theorem St.pass_lt {S : St} {a b E : Nat} (ha : a < 40) (hb : b < 40) (sa : S.has a) (sb : S.has b) (hab : a ≠ b) (hEc : S.ec = (E : Int)) (hE : E ≤ 113) (hN : S.okN) (hli : ∀ j : Nat, j < 40 → S.li j = S.liS a b j) (hX : S.free2 a b) (hM : S.Msh) (hI : S.wI) (hq : S.wq) (h4 : S.w4) (hl : S.lstE 1600) (hno : ∀ q : Nat, q < 40 → ¬ (S.has q ∧ S.betw a b q)) (n1 : ¬ S.E a b) (n2 : ¬ S.E b a) :
    S.FG (St.fcl a b E 0 S) ∧ (St.fcl a b E 0 S).Phi (S.LF a b) < S.Phi (S.LF a b) := by
  obtain ⟨k1, -, k3⟩ := St.fcl_ok hE hN hli hX E 0 (T := S) (by omega) ⟨hM, hI, hq, h4, St.sameO_refl S⟩
  refine ⟨k1, k3 ?_⟩
  obtain ⟨u, v, c, d, ⟨hu, hv, hc, hd⟩, hcr, f1, f2, hU⟩ := St.crease hM.1 ha hb sa sb hab (St.crs_ex hM.1 ha hb sa sb hab hno n1 n2)
  obtain ⟨cut1, cut2⟩ := St.cut_of hcr
  obtain ⟨su, sv⟩ := St.E_has hM.1.PM hu hv hcr.1
  have fin : ∀ x y z w : Nat, x < 40 → y < 40 → z < 40 → w < 40 → x < y → S.has x → S.ap (x * 40 + y) = (z : Int) → S.ap (y * 40 + x) = (w : Int) → S.cut x y (S.xs a) (S.ys a) (S.xs b) (S.ys b) → 0 < S.U (S.liS a b) x y z w → ∃ k : Nat, 0 ≤ k ∧ k < 0 + E ∧ S.FL a b (S.e1 k) (S.e2 k) := by
    intro x y z w hx hy hz hw hxy sx g1 g2 g3 g4
    have hm : x * 40 + y ∈ S.el 1600 := St.el_mem.mpr ⟨by omega, (St.isEdg_code hy).mpr ⟨hxy, sx, Or.inl (by omega)⟩⟩
    obtain ⟨t, ht⟩ := List.mem_iff_getElem?.mp hm
    obtain ⟨⟨l1, l2, -⟩, -⟩ := hl
    have htl : t < (S.el 1600).length := by
      rcases Nat.lt_or_ge t (S.el 1600).length with q | q
      · exact q
      · rw [List.getElem?_eq_none q] at ht; cases ht
    obtain ⟨m1, m2⟩ := l2 t _ ht
    have e1 : S.e1 t = x := by unfold St.e1; rw [m1]; omega
    have e2 : S.e2 t = y := by unfold St.e2; rw [m2]; omega
    refine ⟨t, Nat.zero_le _, by omega, ?_⟩
    rw [e1, e2]
    refine ⟨⟨by omega, by omega⟩, g3, ?_⟩
    rw [g1, g2, Int.toNat_natCast, Int.toNat_natCast, St.und_U, St.U_congr S hli ⟨hx, hy, hz, hw⟩]
    exact g4
  rcases Nat.lt_trichotomy u v with z | z | z
  · exact fin u v c d hu hv hc hd z su f1 f2 cut1 hU
  · exfalso
    have := hcr.2.1
    have := hcr.2.2.1
    rw [z] at *
    omega
  · exact fin v u d c hv hu hd hc z sv f2 f1 cut2 (by rw [St.U_sym]; exact hU)
/-- beside one another, as the rows tell it -/
theorem St.near_E {S : St} (hPM : S.PM) (hl : S.lstE 1600) {a b : Nat} (ha : a < 40) (hb : b < 40) : bt (S.ne a) b = true ↔ S.E a b ∨ S.E b a := by
  rw [hl.1.2.2 a b ha hb]
  constructor
  · rintro ⟨e, e1, e2, e3⟩
    have ee : e / 40 * 40 + e % 40 = e := by omega
    obtain ⟨i1, i2, i3⟩ := e2
    rw [← ee, show (e / 40 * 40 + e % 40) % 40 = e % 40 by omega, show (e / 40 * 40 + e % 40) / 40 = e / 40 by omega] at i3
    rcases e3 with ⟨q1, q2⟩ | ⟨q1, q2⟩
    · rw [q1, q2] at i3
      exact i3
    · rw [q1, q2] at i3
      exact i3.elim (fun z => Or.inr z) (fun z => Or.inl z)
  · intro h
    have sab : S.has a ∧ S.has b := h.elim (fun z => St.E_has hPM ha hb z) (fun z => ⟨(St.E_has hPM hb ha z).2, (St.E_has hPM hb ha z).1⟩)
    have hne : a ≠ b := by
      intro z
      subst z
      have hE : S.E a a := h.elim (fun z => z) (fun z => z)
      have b1 := hPM.1 (a * 40 + a) (by omega)
      unfold St.E at hE
      obtain ⟨w, hw⟩ := Int.eq_ofNat_of_zero_le (show 0 ≤ S.ap (a * 40 + a) by omega)
      obtain ⟨-, -, -, g⟩ := hPM.2.2 a a w ha ha (by omega) hw
      rw [St.sd3_self] at g
      omega
    rcases Nat.lt_or_gt_of_ne hne with z | z
    · exact ⟨a * 40 + b, by omega, (St.isEdg_code hb).mpr ⟨z, sab.1, h⟩, Or.inl ⟨by omega, by omega⟩⟩
    · exact ⟨b * 40 + a, by omega, (St.isEdg_code ha).mpr ⟨z, sab.2, h.elim (fun z => Or.inr z) (fun z => Or.inl z)⟩, Or.inr ⟨by omega, by omega⟩⟩
