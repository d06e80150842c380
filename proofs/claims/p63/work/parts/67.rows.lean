/-! THE ROWS of a mesh: each triangle once, in order; where a place lies; all areas together. By hand. -/
theorem St.tl_get {S : St} {t : Nat} (h : t < (S.tl 1600).length) : ∃ e : Nat, (S.tl 1600)[t]? = some e ∧ e < 1600 ∧ S.isTri e := by
  refine ⟨(S.tl 1600)[t], List.getElem?_eq_getElem h, ?_⟩
  have hm : (S.tl 1600)[t] ∈ S.tl 1600 := List.getElem_mem h
  exact St.tl_mem.mp hm
theorem St.tri_at {S : St} (hPM : S.PM) (hl : S.lstT 1600) {t T : Nat} (hT : S.tn = (T : Int)) (ht : t < T) : ∃ a b c : Nat, a < 40 ∧ b < 40 ∧ c < 40 ∧ a < b ∧ a < c ∧ S.cn t 0 = a ∧ S.cn t 1 = b ∧ S.cn t 2 = c ∧ S.ap (a * 40 + b) = (c : Int) ∧ (S.tl 1600)[t]? = some (a * 40 + b) := by
  obtain ⟨⟨h1, h2, -⟩, -⟩ := hl
  obtain ⟨e, g1, g2, g3⟩ := St.tl_get (S := S) (t := t) (by omega)
  obtain ⟨k1, k2, k3⟩ := h2 t e g1
  obtain ⟨m1, m2, m3⟩ := g3
  have b1 := hPM.1 e g2
  obtain ⟨c, hc⟩ := Int.eq_ofNat_of_zero_le (show 0 ≤ S.ap e by omega)
  have ee : e / 40 * 40 + e % 40 = e := by omega
  refine ⟨e / 40, e % 40, c, by omega, by omega, by omega, m1, by omega, ?_, ?_, ?_, by rw [ee]; exact hc, by rw [ee]; exact g1⟩
  · show (S.co (3 * t + 0)).toNat = _
    rw [Nat.add_zero, k1]
    omega
  · show (S.co (3 * t + 1)).toNat = _
    rw [k2]
    omega
  · show (S.co (3 * t + 2)).toNat = _
    rw [k3, hc]
    omega
theorem St.tri_idx {S : St} {a b c T : Nat} (hT : S.tn = (T : Int)) (hl : S.lstT 1600) (ha : a < 40) (hb : b < 40) (sa : S.has a) (hab : a < b) (hac : a < c) (h : S.ap (a * 40 + b) = (c : Int)) : ∃ t : Nat, t < T ∧ (S.tl 1600)[t]? = some (a * 40 + b) := by
  have hm : a * 40 + b ∈ S.tl 1600 := St.tl_mem.mpr ⟨by omega, (St.isTri_code hb).mpr ⟨hab, sa, by omega⟩⟩
  obtain ⟨t, ht⟩ := List.mem_iff_getElem?.mp hm
  have htl : t < (S.tl 1600).length := by
    rcases Nat.lt_or_ge t (S.tl 1600).length with q | q
    · exact q
    · rw [List.getElem?_eq_none q] at ht; cases ht
  have := hl.1.1
  exact ⟨t, by omega, ht⟩
/-- told from its least corner -/
theorem St.least {S : St} (hG : S.Geo) {a b c : Nat} (ha : a < 40) (hb : b < 40) (hc : c < 40) (h : S.ap (a * 40 + b) = (c : Int)) : ∃ u v w : Nat, u < 40 ∧ v < 40 ∧ w < 40 ∧ S.ap (u * 40 + v) = (w : Int) ∧ S.has u ∧ u < v ∧ u < w ∧ ((u = a ∧ v = b ∧ w = c) ∨ (u = b ∧ v = c ∧ w = a) ∨ (u = c ∧ v = a ∧ w = b)) := by
  obtain ⟨k1, k2⟩ := hG.2.2.2.1 a b c ha hb hc h
  obtain ⟨sa, sb, sc, g⟩ := hG.2.2.2.2.1 a b c ha hb hc h
  obtain ⟨n1, n2, n3⟩ := St.pos_ne g
  by_cases c1 : a < b ∧ a < c
  · exact ⟨a, b, c, ha, hb, hc, h, sa, c1.1, c1.2, Or.inl ⟨rfl, rfl, rfl⟩⟩
  · by_cases c2 : b < c ∧ b < a
    · exact ⟨b, c, a, hb, hc, ha, k1, sb, c2.1, c2.2, Or.inr (Or.inl ⟨rfl, rfl, rfl⟩)⟩
    · exact ⟨c, a, b, hc, ha, hb, k2, sc, by omega, by omega, Or.inr (Or.inr ⟨rfl, rfl, rfl⟩)⟩
/-- where a place of the square lies -/
theorem St.where_ok {S : St} (hG : S.Geo) (hl : S.lstT 1600) {T : Nat} (hT : S.tn = (T : Int)) {x y : Int} (hq : inSq x y) : ∃ t a b c : Nat, t < T ∧ S.wiF x y T 0 = (t : Int) ∧ a < 40 ∧ b < 40 ∧ c < 40 ∧ S.cn t 0 = a ∧ S.cn t 1 = b ∧ S.cn t 2 = c ∧ S.ap (a * 40 + b) = (c : Int) ∧ 0 ≤ S.sd a b x y ∧ 0 ≤ S.sd b c x y ∧ 0 ≤ S.sd c a x y := by
  obtain ⟨a, b, c, ha, hb, hc, hap, h1, h2, h3⟩ := St.cover0 hG.2.2.1 hG.2.2.2.1 hG.2.2.2.2.1 hG.2.2.2.2.2.1 hG.2.1 hq
  obtain ⟨u, v, w, hu, hv, hw, hz, su, uv, uw, hrot⟩ := St.least hG ha hb hc hap
  obtain ⟨t0, ht0, hi0⟩ := St.tri_idx hT hl hu hv su uv uw hz
  have hold : S.hold t0 x y := by
    obtain ⟨a', b', c', -, -, -, -, -, e1, e2, e3, -, e4⟩ := St.tri_at hG.PM hl hT ht0
    rw [hi0] at e4
    have e5 : u * 40 + v = a' * 40 + b' := Option.some.inj e4
    obtain ⟨f1, f2, -⟩ := hl.1.2.1 t0 _ hi0
    have f3 := (hl.1.2.1 t0 _ hi0).2.2
    have g1 : S.cn t0 0 = u := by
      show (S.co (3 * t0 + 0)).toNat = u
      rw [Nat.add_zero, f1]; omega
    have g2 : S.cn t0 1 = v := by
      show (S.co (3 * t0 + 1)).toNat = v
      rw [f2]; omega
    have g3 : S.cn t0 2 = w := by
      show (S.co (3 * t0 + 2)).toNat = w
      rw [f3, hz]; omega
    unfold St.hold
    rw [g1, g2, g3]
    rcases hrot with ⟨r1, r2, r3⟩ | ⟨r1, r2, r3⟩ | ⟨r1, r2, r3⟩ <;> rw [r1, r2, r3]
    · exact ⟨h1, h2, h3⟩
    · exact ⟨h2, h3, h1⟩
    · exact ⟨h3, h1, h2⟩
  rcases St.wiF_ge S x y T 0 with ⟨-, z⟩ | ⟨q, q1, q2, q3, q4, -⟩
  · exact absurd hold (z t0 (Nat.zero_le _) (by omega))
  · obtain ⟨a', b', c', m1, m2, m3, -, -, e1, e2, e3, e4, -⟩ := St.tri_at hG.PM hl hT (show q < T by omega)
    unfold St.hold at q4
    rw [e1, e2, e3] at q4
    exact ⟨q, a', b', c', by omega, q3, m1, m2, m3, e1, e2, e3, e4, q4.1, q4.2.1, q4.2.2⟩
/-- the rows are in order -/
theorem St.tl_lt {S : St} {i j e f : Nat} (hij : i < j) (h1 : (S.tl 1600)[i]? = some e) (h2 : (S.tl 1600)[j]? = some f) : e < f := by
  have hp : (S.tl 1600).Pairwise (· < ·) := List.Pairwise.filter _ List.pairwise_lt_range
  obtain ⟨g1, e1⟩ := List.getElem?_eq_some_iff.mp h1
  obtain ⟨g2, e2⟩ := List.getElem?_eq_some_iff.mp h2
  have := List.pairwise_iff_getElem.mp hp i j g1 g2 hij
  omega
theorem sum_filter (P : Nat → Bool) (F : Nat → Int) : ∀ (n : Nat), (((List.range n).filter P).map F).sum = sumR n (fun e => if P e = true then F e else 0) := by
  intro n
  induction n with
  | zero => rfl
  | succ n ih =>
    rw [List.range_succ, List.filter_append, List.map_append, List.sum_append, ih]
    show _ = sumR n (fun e => if P e = true then F e else 0) + (if P n = true then F n else 0)
    by_cases e : P n = true
    · simp [e]
    · simp [e]
/-- what is summed over the rows, of things that hang on the triangle alone -/
theorem St.tl_Sg {S : St} (hA : S.okA) (hcy : S.cyc) (hp : S.pos) (G : Nat → Nat → Nat → Int) (hG : ∀ u v w : Nat, G v w u = G u v w) : 3 * ((S.tl 1600).map (fun e => G (e / 40) (e % 40) (S.ap e).toNat)).sum = S.SgT G := by
  have e0 : ((S.tl 1600).map (fun e => G (e / 40) (e % 40) (S.ap e).toNat)).sum = sumR 1600 (fun e => if S.ap e = -1 then 0 else (fun e : Nat => if e / 40 < e % 40 ∧ e / 40 < (S.ap e).toNat then G (e / 40) (e % 40) (S.ap e).toNat else 0) e) := by
    unfold St.tl
    rw [sum_filter]
    apply sumR_congr
    intro e he
    by_cases c0 : S.ap e = -1
    · rw [if_pos c0, if_neg]
      intro z
      have z2 : S.isTri e := @of_decide_eq_true _ (Classical.propDecidable _) z
      have := z2.2.2
      omega
    · rw [if_neg c0]
      obtain ⟨a, b, c, ha, hb, hc, e1, e2, e3, k1, k2, k3, g1, g2, g3, g4, n1, n2, n3⟩ := St.edge hA hcy hp he c0
      have hap : S.ap e = (c : Int) := by rw [e1]; exact k1
      by_cases c1 : e / 40 < e % 40 ∧ e / 40 < (S.ap e).toNat
      · rw [if_pos (show @decide (S.isTri e) (Classical.propDecidable _) = true from @decide_eq_true _ (Classical.propDecidable _) ⟨c1.1, by rw [e2]; exact g1, by omega⟩)]
        exact (if_pos c1).symm
      · rw [if_neg (show ¬ @decide (S.isTri e) (Classical.propDecidable _) = true from fun z => by
          have z2 : S.isTri e := @of_decide_eq_true _ (Classical.propDecidable _) z
          have := z2.1
          have := z2.2.2
          exact c1 ⟨by omega, by omega⟩)]
        exact (if_neg c1).symm
  have r1 := St.rot_sum hA hcy (fun e : Nat => if e / 40 < e % 40 ∧ e / 40 < (S.ap e).toNat then G (e / 40) (e % 40) (S.ap e).toNat else 0)
  have r2 := St.rot_sum hA hcy (fun e : Nat => (fun e : Nat => if e / 40 < e % 40 ∧ e / 40 < (S.ap e).toNat then G (e / 40) (e % 40) (S.ap e).toNat else 0) (S.rot e))
  have key : S.SgT G = sumR 1600 (fun e => if S.ap e = -1 then 0 else (fun e : Nat => if e / 40 < e % 40 ∧ e / 40 < (S.ap e).toNat then G (e / 40) (e % 40) (S.ap e).toNat else 0) e) + sumR 1600 (fun e => if S.ap e = -1 then 0 else (fun e : Nat => (fun e : Nat => if e / 40 < e % 40 ∧ e / 40 < (S.ap e).toNat then G (e / 40) (e % 40) (S.ap e).toNat else 0) (S.rot e)) e) + sumR 1600 (fun e => if S.ap e = -1 then 0 else (fun e : Nat => (fun e : Nat => if e / 40 < e % 40 ∧ e / 40 < (S.ap e).toNat then G (e / 40) (e % 40) (S.ap e).toNat else 0) (S.rot e)) (S.rot e)) := by
    rw [← sumR_add, ← sumR_add]
    apply sumR_congr
    intro e he
    by_cases c0 : S.ap e = -1
    · simp only [c0, if_true]; rfl
    · simp only [c0, if_false]
      obtain ⟨a, b, c, ha, hb, hc, e1, e2, e3, k1, k2, k3, g1, g2, g3, g4, n1, n2, n3⟩ := St.edge hA hcy hp he c0
      have q0 : S.ap e = (c : Int) := by rw [e1]; exact k1
      have q1 : S.rot e = b * 40 + c := by unfold St.rot; rw [e3, q0]; rfl
      have q2 : S.rot (S.rot e) = c * 40 + a := by
        rw [q1]
        unfold St.rot
        rw [k2]
        omega
      have h1 := hG a b c
      have h2 := hG b c a
      rw [q2, q1, k2, k3, q0, e2, e3, show (b * 40 + c) / 40 = b by omega, show (b * 40 + c) % 40 = c by omega, show (c * 40 + a) / 40 = c by omega, show (c * 40 + a) % 40 = a by omega, Int.toNat_natCast, Int.toNat_natCast, Int.toNat_natCast]
      (repeat' split) <;> omega
  simp only at r1 r2 key e0 ⊢
  rw [key]
  omega
/-- all areas together -/
theorem St.area_sum {S : St} (hM : S.Msh) : ((S.tl 1600).map (fun e => S.sd3 (e / 40) (e % 40) (S.ap e).toNat)).sum = 8000000 := by
  have h1 := St.tl_Sg hM.1.2.2.1 hM.1.2.2.2.1 hM.1.2.2.2.2.1 S.sd3 (fun u v w => St.sd3_rot S u v w)
  have h2 := St.Sg_tri hM.1.2.2.1 hM.1.2.2.2.1 S.arf
  have h3 : sumR 1600 (fun e => if S.ap e = -1 then 0 else S.arf (e / 40) (e % 40) + S.arf (e % 40) (S.ap e).toNat + S.arf (S.ap e).toNat (e / 40)) = S.SgT S.sd3 := by
    apply sumR_congr
    intro e _
    show (if S.ap e = -1 then 0 else S.arf (e / 40) (e % 40) + S.arf (e % 40) (S.ap e).toNat + S.arf (S.ap e).toNat (e / 40)) = if S.ap e = -1 then 0 else S.sd3 (e / 40) (e % 40) (S.ap e).toNat
    have : S.arf (e / 40) (e % 40) + S.arf (e % 40) (S.ap e).toNat + S.arf (S.ap e).toNat (e / 40) = S.sd3 (e / 40) (e % 40) (S.ap e).toNat := by
      unfold St.arf St.sd3 St.sd
      grind
    rw [this]
  rw [h3] at h2
  have h4 := hM.2.2.2
  omega
