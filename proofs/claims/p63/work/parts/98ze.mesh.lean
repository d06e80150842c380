/-! THE LAW: a mesh is what it must be. By hand. -/
theorem is14_at (v0 v1 v2 v3 v4 v6 v7 v8 v10 v11 v12 : Int) : is14 v0 v1 v2 v3 v4 v6 v7 v8 v10 v11 v12 0 = v0 ∧ is14 v0 v1 v2 v3 v4 v6 v7 v8 v10 v11 v12 1 = v1 ∧ is14 v0 v1 v2 v3 v4 v6 v7 v8 v10 v11 v12 2 = v2 ∧ is14 v0 v1 v2 v3 v4 v6 v7 v8 v10 v11 v12 3 = v3 ∧ is14 v0 v1 v2 v3 v4 v6 v7 v8 v10 v11 v12 4 = v4 ∧ is14 v0 v1 v2 v3 v4 v6 v7 v8 v10 v11 v12 5 = -5 ∧ is14 v0 v1 v2 v3 v4 v6 v7 v8 v10 v11 v12 6 = v6 ∧ is14 v0 v1 v2 v3 v4 v6 v7 v8 v10 v11 v12 7 = v7 ∧ is14 v0 v1 v2 v3 v4 v6 v7 v8 v10 v11 v12 8 = v8 ∧ is14 v0 v1 v2 v3 v4 v6 v7 v8 v10 v11 v12 9 = -5 ∧ is14 v0 v1 v2 v3 v4 v6 v7 v8 v10 v11 v12 10 = v10 ∧ is14 v0 v1 v2 v3 v4 v6 v7 v8 v10 v11 v12 11 = v11 ∧ is14 v0 v1 v2 v3 v4 v6 v7 v8 v10 v11 v12 12 = v12 ∧ is14 v0 v1 v2 v3 v4 v6 v7 v8 v10 v11 v12 13 = -1 := ⟨rfl, rfl, rfl, rfl, rfl, rfl, rfl, rfl, rfl, rfl, rfl, rfl, rfl, rfl⟩
theorem cntP_b (P : Nat → Prop) : ∀ n : Nat, 0 ≤ cntP P n ∧ cntP P n ≤ (n : Int)
  | 0 => ⟨Int.le_refl 0, Int.le_refl 0⟩
  | n + 1 => by
    have h := cntP_b P n
    have k := cI_b (P n)
    have e : cntP P (n + 1) = cntP P n + cI (P n) := rfl
    omega
theorem shP_lt {w : pW} {O Q : Nat → Prop} {a : Nat} {X : Sh} {pa fa ha : Nat} {pf gf hf : Nat → Option Nat} {ff : Nat → Nat} (h : shP w O Q a X pa fa ha pf gf hf ff) : shP w (fun i => O i ∧ i < w.length) (fun i => Q i ∧ i < w.length) a X pa fa ha pf gf hf ff := by
  obtain ⟨hb, h0, h1, h2, h3, h4, h5, h6, h7, h8, h9⟩ := h
  refine ⟨⟨⟨hb.1, get_lt h0⟩, ⟨hb.2.1, get_lt h1⟩, ⟨hb.2.2.1, get_lt h4⟩, ⟨hb.2.2.2.1, get_lt h7⟩, hb.2.2.2.2⟩, h0, h1, h2, fun q x y z hq hz => ?_, h4, fun q hq => ?_, h6, h7, h8, fun q hq => ?_⟩
  · obtain ⟨r, r1, r2, r4⟩ := h3 q x y z hq hz
    exact ⟨r, r1, ⟨r2, get_lt r4⟩, r4⟩
  · obtain ⟨r1, r2, r4⟩ := h5 q hq
    exact ⟨r1, ⟨r2, get_lt r4⟩, r4⟩
  · obtain ⟨r, x, y, r1, r2, r4, r5⟩ := h9 q hq
    exact ⟨r, x, y, r1, ⟨r2, get_lt r4⟩, r4, r5⟩
theorem OB_len {pre post : pW} {b : Nat} (hb : pre.length = b) {S : St} {L M : List St} {K : St} {w : pW} (h : OB pre post b S L M K w) : b + 57 ≤ w.length := by
  obtain ⟨x, hx, rfl, -⟩ := OB_split h
  rw [List.length_append, List.length_append, hb, hx]
  omega
theorem pwsz_ap (w l : pW) : pwsz (w ++ l) = pwsz w + pwsz l := by
  unfold pwsz
  rw [List.map_append, List.sum_append]
set_option maxHeartbeats 4000000 in
theorem w_mesh {w0 : pW} {pre post : pW} {b : Nat} (hb : pre.length = b) {S : St} {L M : List St} {K : St} (hO : OB pre post b S L M K w0) {O Q : Nat → Prop} {a : Nat} {X : Sh} (hS0 : shAt w0 O Q a X) (hR : Rel S X) (hDO : ∀ i : Nat, b ≤ i → i < b + 57 → ¬ O i ∧ ¬ Q i) : qC 151 [.ref b, .ref a] w0 (fun r w' => r = some (.int (bI true)) ∧ (∃ post' : pW, OB pre post' b S L M K w') ∧ agr (fun i => b ≤ i ∧ i < b + 57) w0 w' ∧ gro 757 3835 w0 w') := by
  obtain ⟨pa, fa, ha, pf, gf, hf, ff, hS⟩ := hS0
  have hS := shP_lt hS
  have h9 := hO.1
  obtain ⟨T, hT, hT2⟩ := h9.T
  obtain ⟨E, hE, hE2⟩ := h9.E
  have hbl := OB_len hb hO
  obtain ⟨c0, hc0⟩ := col_ex S 40 (Nat.le_refl 40)
  have hX9 := (hR.In h9).1
  have hT0 : 0 < T := by
    rcases Nat.eq_zero_or_pos T with z | z
    · have ha9 := h9.c_area hT
      rw [z] at ha9
      exact absurd (show (0 : Int) = 8000000 from ha9) (by decide)
    · exact z
  have hcn : ∀ t k : Nat, t < T → k < 3 → S.cn t k < 40 ∧ S.has (S.cn t k) := by
    intro t k ht hk
    obtain ⟨p0, p1, p2, k3⟩ := h9.tri3 hT ht
    obtain ⟨⟨q0, q1, q2⟩, -, ⟨e0, e1, e2⟩, ⟨s0, s1, s2⟩, -⟩ := k3
    have : k = 0 ∨ k = 1 ∨ k = 2 := by omega
    rcases this with rfl | rfl | rfl
    · rw [e0]; exact ⟨q0, s0⟩
    · rw [e1]; exact ⟨q1, s1⟩
    · rw [e2]; exact ⟨q2, s2⟩
  refine l_m0 hb hO hT ?_
  refine pe_go (pc := 27) rfl s_mnew ?_
  refine l_m31 ?_
  obtain ⟨r1, r2⟩ := rows_at (w := w0) rfl
  have hl1 : (w0 ++ pRows 40 40 w0.length).length = w0.length + 41 := by rw [List.length_append, rows_len]
  have hz1 : pwsz (w0 ++ pRows 40 40 w0.length) = pwsz w0 + 1640 := by rw [pwsz_ap, rows_sz]
  have hp1 : pfx w0 (w0 ++ pRows 40 40 w0.length) := ⟨_, rfl⟩
  have hT1 : tabAt (w0 ++ pRows 40 40 w0.length) w0.length (fun j => bif Nat.ble (j + 1) 40 then some (w0.length + 1 + j) else none) (fun x => w0.length + 1 + x) (fun _ _ => 0) := ⟨r1, fun x hx => ⟨by
    show (bif Nat.ble (x + 1) 40 then some (w0.length + 1 + x) else none) = _
    rw [Nat.ble_eq_true_of_le (by omega)]
    rfl, r2 x hx⟩⟩
  have hI : tabIn w0.length w0.length (fun x => w0.length + 1 + x) (w0.length + 41) := ⟨fun x hx => ⟨by show w0.length ≤ w0.length + 1 + x; omega, by show w0.length + 1 + x < _; omega, by show w0.length + 1 + x ≠ _; omega⟩, fun x y hx hy e => by
    have : w0.length + 1 + x = w0.length + 1 + y := e
    omega⟩
  generalize w0 ++ pRows 40 40 w0.length = w1 at hl1 hz1 hp1 hT1 ⊢
  generalize (fun j => bif Nat.ble (j + 1) 40 then some (w0.length + 1 + j) else none) = tf at hT1
  generalize htr : (fun x => w0.length + 1 + x) = tr at hT1 hI
  refine l_tris hb hO hS hR hT hT2 hI (n := w0.length + 41) (z := pwsz w0 + 1640) (fun w2 G hp2 hT2' hG2 hl2 hz2 => ?_) T 0 w1 (fun _ _ => 0) (by omega) hp1 (by omega) hT1 (h9.tabT_0 hT) hl1 hz1
  rw [h9.c_area hT]
  have hGs : ∀ x y : Nat, x < 40 → y < 40 → G x y = S.sid x y := fun x y hx hy => h9.tabT_T hT hG2 hx hy
  refine l_m464 ?_
  refine l_pairs hb hO hS hR hT hT2 hGs (n := (w2.length : Int)) (z := (pwsz w2 : Int)) (fun w3 hp3 hT3 hl3 hz3 => ?_) 40 0 w2 0 0 0 0 0 (by omega) hp2 hT2' rfl rfl rfl rfl rfl (by omega) (by omega)
  refine l_m954 ?_
  obtain ⟨pos3, hO3⟩ := OB_pfx hp3 hO
  refine l_beyond hb hO3 hT hT2 (fun t k ht hk => (hcn t k ht hk).1) hT3 (fun x y hx hy => by have := h9.sid_b hT hx hy; rw [hGs x y hx hy]; omega) (fun t k ht hk => by rw [hGs _ _ (hcn t ((k + 1) % 3) ht (by omega)).1 (hcn t k ht hk).1, St.acr_sid]) ?_ T 0 (by omega)
  refine l_m1023 hb hO3 ⟨pa, fa, ha, pf, gf, hf, ff, shP_pfx hp3 hS⟩ hX9 hT hT2 (fun t k ht hk => ⟨(hcn t k ht hk).1, (hR.1 _ (hcn t k ht hk).1).mpr (hcn t k ht hk).2⟩) (fun w4 f l ew4 hf0 hf1 hl4 hz4 => ?_)
  have hp4 : pfx w3 w4 := ⟨_, ew4⟩
  have hlw4 : w4.length = w3.length + (T + 1) := by rw [ew4, List.length_append, List.length_cons, hl4]
  have hzw4 : pwsz w4 = pwsz w3 + (2 + 3 * T) := by
    rw [ew4, pwsz_ap]
    have : pwsz (.inl (0, 2, .inl (fun j => iI (f j))) :: l : pW) = (2 + 0) + pwsz l := rfl
    rw [this, hz4]
  have hg4 : w4[w3.length]? = some (.inl (0, 2, .inl (fun j => iI (f j)))) := by
    rw [ew4, List.getElem?_append_right (Nat.le_refl _), Nat.sub_self]
    rfl
  refine l_m1029 (m := w4.length) rfl (g := w3.length) ?_
  obtain ⟨w5, ew5⟩ : ∃ w5 : pW, w5 = w4 ++ [.inl (0, 40, .inl (fun j => iI ((fun _ => (0 : Int)) j)))] := ⟨_, rfl⟩
  rw [← ew5]
  have hp35 : pfx w3 w5 := pfx_trans hp4 ⟨_, ew5⟩
  have hp5 : pfx w0 w5 := pfx_trans hp3 hp35
  have he5 : rowI w5 w4.length 40 (fun _ => (0 : Int)) := by rw [ew5]; exact get_end rfl
  have hlw5 : w5.length = w4.length + 1 := by rw [ew5, List.length_append]; rfl
  have hzw5 : pwsz w5 = pwsz w4 + 40 := by
    rw [ew5, pwsz_app]
    rfl
  have hl03 := pfx_len hp3
  obtain ⟨pos5, hO5⟩ := OB_pfx hp5 hO
  have hD : ∀ i : Nat, (b ≤ i ∧ i < b + 57) ∨ i = w4.length → ¬ (O i ∧ i < w0.length) ∧ ¬ (Q i ∧ i < w0.length) := by
    intro i hi
    rcases hi with ⟨i1, i2⟩ | hi
    · exact ⟨fun z => (hDO i i1 i2).1 z.1, fun z => (hDO i i1 i2).2 z.1⟩
    · exact ⟨fun z => by have := z.2; omega, fun z => by have := z.2; omega⟩
  have hlo : ∀ x : Nat, x < 40 → w0.length ≤ tr x ∧ tr x < w0.length + 41 := fun x hx => ⟨(hI.1 x hx).1, (hI.1 x hx).2.1⟩
  have hl23 : w0.length + 41 ≤ w3.length := by
    have := pfx_len hp3
    have h0 := get_lt (hT3.2 39 (by decide)).2
    rw [← htr] at h0
    have : w0.length + 1 + 39 < w3.length := h0
    omega
  refine l_cols hb h9 hE hE2 (shP_pfx hp5 hS) hR hT hT2 (tab_pfx hp35 hT3) hGs (e := w4.length) (g := w3.length) (by omega) hD (by omega) (fun x hx => by have := hlo x hx; omega) hc0 (fun w6 mx hO6 hA6 hl6 hz6 hmx => ?_) 40 0 w5 (fun _ => 0) 0 (by omega) ⟨pos5, hO5⟩ (agr_refl _ _) rfl rfl he5 (fun j hj => absurd hj (Nat.not_lt_zero j)) ⟨by decide, by decide, fun p hp => absurd hp (Nat.not_lt_zero p), Or.inl rfl⟩
  obtain ⟨pos6, hO6⟩ := hO6
  have hg6 : w6[w3.length]? = some (.inl (0, 2, .inl (fun j => iI (f j)))) := cell_agr hA6 (pfx_cell ⟨_, ew5⟩ hg4) (by omega)
  refine l_row14 (m := w6.length) rfl (shP_agr (shP_pfx hp5 hS) hA6 hD) hg6 hf0 hf1 ?_
  -- the fourteen
  have n0 := h9.c_points
  have n2 := h9.c_edges hE
  have n3 := h9.c_fixed hE
  have n4 := h9.c_border hE
  have n7 := h9.c_bent hT hE
  have n10 := hR.c_obt h9 hT
  have n11 := hR.c_rgt h9 hT
  have neu := h9.c_euler hT
  have b0 := cntP_b S.has 40
  have b3 := cntP_b S.cfP E
  have b4 := cntP_b S.cbP E
  have b7 := cntP_b S.bent E
  have b10 := cntP_b (S.angP (-1)) T
  have b11 := cntP_b (S.angP 0) T
  rw [← cntF_P] at b3 b4 b7 b10 b11
  have bg := h9.2.2.2.2.2.1
  have bh := h9.2.2.2.2.1
  have eg := hR.2.2.2.2
  have eh := hR.2.2.2.1
  obtain ⟨R, eR⟩ : ∃ R : Nat → Int, R = is14 (cntP S.has 40) (T : Int) (cnt2 S.nr 40) (cnt2 S.bound 40) (cnt2 (fun u v => S.how u v = 2) 40) X.2.2.2 (cnt2 S.bdP 40) ((X.2.2.1 : Nat) : Int) (X.obt S T) (X.rgt S T) mx := ⟨_, rfl⟩
  have hat := is14_at (cntP S.has 40) (T : Int) (cnt2 S.nr 40) (cnt2 S.bound 40) (cnt2 (fun u v => S.how u v = 2) 40) X.2.2.2 (cnt2 S.bdP 40) ((X.2.2.1 : Nat) : Int) (X.obt S T) (X.rgt S T) mx
  rw [← eR] at hat ⊢
  obtain ⟨a0, a1, a2, a3, a4, a5, a6, a7, a8, a9, a10, a11, a12, a13⟩ := hat
  rw [n2] at a2
  rw [n3] at a3
  rw [n4] at a4
  rw [n7] at a7
  rw [n10] at a10
  rw [n11] at a11
  obtain ⟨w7, ew7⟩ : ∃ w7 : pW, w7 = w6 ++ [.inl (0, 14, .inl (fun j => iI (R j)))] := ⟨_, rfl⟩
  rw [← ew7]
  have hO7 : OB pre (pos6 ++ [.inl (0, 14, .inl (fun j => iI (R j)))]) b S L M K w7 := by rw [ew7]; exact OB_app hO6 _
  have hm7 : rowI w7 w6.length 14 R := by rw [ew7]; exact get_end rfl
  have hlw7 : w7.length = w6.length + 1 := by rw [ew7, List.length_append]; rfl
  have hzw7 : pwsz w7 = pwsz w6 + 14 := by
    rw [ew7, pwsz_app]
    rfl
  refine l_isV hb hO7 hm7 (k := 0) (by decide) (by rw [a0]; exact ⟨by omega, by omega⟩) (by omega) (by rw [a0, n0]; exact o_is0 hb hO7) ?_
  refine l_isV hb hO7 hm7 (k := 1) (by decide) (by rw [a1]; exact ⟨by omega, by omega⟩) (by omega) (by rw [a1, ← hT]; exact o_is1 hb hO7) ?_
  refine l_isV hb hO7 hm7 (k := 2) (by decide) (by rw [a2]; exact ⟨by omega, by omega⟩) (by omega) (by rw [a2]; exact o_is2 hb hO7) ?_
  refine l_isV hb hO7 hm7 (k := 3) (by decide) (by rw [a3]; exact ⟨by omega, by omega⟩) (by omega) (by rw [a3]; exact o_is3 hb hO7 hE hE2) ?_
  refine l_isV hb hO7 hm7 (k := 4) (by decide) (by rw [a4]; exact ⟨by omega, by omega⟩) (by omega) (by rw [a4]; exact o_is4 hb hO7 hE hE2) ?_
  refine l_isS hm7 (k := 5) (by decide) a5 ?_
  refine l_isV hb hO7 hm7 (k := 6) (by decide) (by rw [a6]; exact ⟨by omega, by omega⟩) (by omega) (by rw [a6, eg]; exact o_is6 hb hO7) ?_
  refine l_isV hb hO7 hm7 (k := 7) (by decide) (by rw [a7]; exact ⟨by omega, by omega⟩) (by omega) (by rw [a7]; exact o_is7 hb hO7 hE hE2) ?_
  refine l_isV hb hO7 hm7 (k := 8) (by decide) (by rw [a8]; exact ⟨by omega, by omega⟩) (by omega) (by rw [a8, eh]; exact o_is8 hb hO7) ?_
  refine l_isS hm7 (k := 9) (by decide) a9 ?_
  refine l_isV hb hO7 hm7 (k := 10) (by decide) (by rw [a10]; exact ⟨by omega, by omega⟩) (by omega) (by rw [a10]; exact o_is10 hb hO7 hT hT2) ?_
  refine l_isV hb hO7 hm7 (k := 11) (by decide) (by rw [a11]; exact ⟨by omega, by omega⟩) (by omega) (by rw [a11]; exact o_is11 hb hO7 hT hT2) ?_
  have bmx := hmx.1
  have bmx2 := hmx.2.1
  refine l_isC hb hO7 hm7 (by omega) (by rw [a12]; exact ⟨by omega, by omega⟩) (by omega) (fun c k hc hk => ?_) (fun w8 hO8 hm8 => ?_)
  · rw [a12]
    exact colN_uniq (colOk_uniq h9.nr hc hc0) hk hmx
  refine l_isV hb hO8 hm8 (k := 13) (by decide) (by rw [a13]; exact ⟨by omega, by omega⟩) (by omega) (by rw [a13]; exact o_is13 hb hO8) ?_
  refine l_isE ?_
  have b2 : 0 ≤ cnt2 S.nr 40 ∧ cnt2 S.nr 40 ≤ 1000 := by omega
  obtain ⟨r, w9, ⟨e1, e2⟩, hrun⟩ := l_meshEnd hb hO8 (a := a) hT hT2 hT0 (V := cntP S.has 40) (E := cnt2 S.nr 40) (by omega) b2 (by omega)
  refine ⟨r, w9, ⟨e1, ?_⟩, hrun⟩
  rw [e2]
  obtain ⟨f1, f2, f3⟩ := OB_frame hb hO7 hO8
  refine ⟨⟨_, hO8⟩, ⟨by omega, fun i hi hni => ?_⟩, ⟨by omega, by omega⟩⟩
  rw [f3 i (by omega), ew7, List.getElem?_append_left (by omega), hA6.2 i (by omega) (by omega)]
  obtain ⟨l5, el5⟩ := hp5
  rw [el5, List.getElem?_append_left hi]
