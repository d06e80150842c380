/-! THE LAW: all triangles. Rows laid by program (wip/p63/wk.py, hw.py, mk98w.py). -/
theorem s_newM {pc n m : Nat} {t : ArrayType} {lv : pLv} {st : List Value} {w : pW} {z : Int} (hm : w.length = m) (hz : z = (n : Int)) (hn : n ≤ 60000000) : pS1 (.newarray t) pc [0] lv (.int (iI z) :: st) w = some (.inl (pc + 2, lv, .ref m :: st, w ++ [.inl (0, n, .inl (fun j => iI ((fun _ => (0 : Int)) j)))])) := by
  rw [s_newI hz hn, hm]
theorem get_end {w : pW} {m : Nat} {c : pCell} (hm : w.length = m) : (w ++ [c])[m]? = some c := by
  rw [List.getElem?_append_right (by omega), hm, Nat.sub_self]
  rfl
theorem set_end {w : pW} {m : Nat} {c c' : pCell} (hm : w.length = m) : (w ++ [c]).set m c' = w ++ [c'] := by
  rw [List.set_append_right _ _ (by omega), hm, Nat.sub_self]
  rfl
/-- the table's rows lie behind the first world, ahead of m, each for itself -/
def tabIn (n q : Nat) (tr : Nat → Nat) (m : Nat) : Prop := (∀ x : Nat, x < 40 → n ≤ tr x ∧ tr x < m ∧ tr x ≠ q) ∧ ∀ x y : Nat, x < 40 → y < 40 → tr x = tr y → x = y
/-- the sum of the areas -/
def St.arF (S : St) : Nat → Int
  | 0 => 0
  | t + 1 => S.arF t + S.sd3 (S.cn t 0) (S.cn t 1) (S.cn t 2)
theorem pwsz_set3 {w : pW} {i : Nat} {f g : Nat → Int} {n : Nat} (h : w[i]? = some (.inl (0, n, .inl (fun j => iI (f j))))) : pwsz (w.set i (.inl (0, n, .inl (fun j => iI (g j))))) = pwsz w := by
  rw [pwsz_set h]
  rfl
theorem l_t257 {w : pW} {a b q e t T : Nat} {x3 x4 x5 x6 x7 x8 : Int} {Φ : Option Value → pW → Prop} (KK : qE 151 (260, [(13, .int (iI 0)), (11, .ref e), (10, .int (iI (t : Int))), (9, .ref q), (8, .int (iI x8)), (7, .int (iI x7)), (6, .int (iI x6)), (5, .int (iI x5)), (4, .int (iI x4)), (3, .int (iI x3)), (2, .int (iI (T : Int))), (0, .ref b), (1, .ref a)], [], w) Φ) : qE 151 (257, [(11, .ref e), (10, .int (iI (t : Int))), (9, .ref q), (8, .int (iI x8)), (7, .int (iI x7)), (6, .int (iI x6)), (5, .int (iI x5)), (4, .int (iI x4)), (3, .int (iI x3)), (2, .int (iI (T : Int))), (0, .ref b), (1, .ref a)], [], w) Φ := by
  refine pe_go (pc := 257) rfl (s_iconst (z := 0) rfl) ?_
  refine pe_go (pc := 258) rfl (s_istore (lv' := [(13, .int (iI 0)), (11, .ref e), (10, .int (iI (t : Int))), (9, .ref q), (8, .int (iI x8)), (7, .int (iI x7)), (6, .int (iI x6)), (5, .int (iI x5)), (4, .int (iI x4)), (3, .int (iI x3)), (2, .int (iI (T : Int))), (0, .ref b), (1, .ref a)]) rfl) ?_
  refine pe_few (lv := [(13, .int (iI 0)), (11, .ref e), (10, .int (iI (t : Int))), (9, .ref q), (8, .int (iI x8)), (7, .int (iI x7)), (6, .int (iI x6)), (5, .int (iI x5)), (4, .int (iI x4)), (3, .int (iI x3)), (2, .int (iI (T : Int))), (0, .ref b), (1, .ref a)]) rfl rfl (by intro q hq; simp only [List.mem_cons, List.not_mem_nil, or_false] at hq; rcases hq with rfl | rfl | rfl | rfl | rfl | rfl | rfl | rfl | rfl | rfl | rfl | rfl | rfl <;> rfl) ?_
  exact KK
theorem l_t260 {w : pW} {a b q e t T : Nat} {x3 x4 x5 x6 x7 x8 : Int} {Φ : Option Value → pW → Prop} (KK : qE 151 (320, [(13, .int (iI ((0 : Nat) : Int))), (11, .ref e), (10, .int (iI (t : Int))), (9, .ref q), (8, .int (iI x8)), (7, .int (iI x7)), (6, .int (iI x6)), (5, .int (iI x5)), (4, .int (iI x4)), (3, .int (iI x3)), (2, .int (iI (T : Int))), (0, .ref b), (1, .ref a)], [], w) Φ) : qE 151 (260, [(13, .int (iI 3)), (11, .ref e), (10, .int (iI (t : Int))), (9, .ref q), (8, .int (iI x8)), (7, .int (iI x7)), (6, .int (iI x6)), (5, .int (iI x5)), (4, .int (iI x4)), (3, .int (iI x3)), (2, .int (iI (T : Int))), (0, .ref b), (1, .ref a)], [], w) Φ := by
  refine pe_go (pc := 260) rfl (s_iload rfl) ?_
  refine pe_go (pc := 262) rfl (s_iconst (z := 3) rfl) ?_
  refine pe_go rfl (s_icmp_ge_t ⟨by decide, by decide⟩ ⟨by decide, by decide⟩ (by decide)) ?_
  refine pe_go (pc := 317) rfl (s_iconst (z := 0) rfl) ?_
  refine pe_go (pc := 318) rfl (s_istore (lv' := [(13, .int (iI 0)), (11, .ref e), (10, .int (iI (t : Int))), (9, .ref q), (8, .int (iI x8)), (7, .int (iI x7)), (6, .int (iI x6)), (5, .int (iI x5)), (4, .int (iI x4)), (3, .int (iI x3)), (2, .int (iI (T : Int))), (0, .ref b), (1, .ref a)]) rfl) ?_
  refine pe_few (lv := [(13, .int (iI ((0 : Nat) : Int))), (11, .ref e), (10, .int (iI (t : Int))), (9, .ref q), (8, .int (iI x8)), (7, .int (iI x7)), (6, .int (iI x6)), (5, .int (iI x5)), (4, .int (iI x4)), (3, .int (iI x3)), (2, .int (iI (T : Int))), (0, .ref b), (1, .ref a)]) rfl rfl (by intro q hq; simp only [List.mem_cons, List.not_mem_nil, or_false] at hq; rcases hq with rfl | rfl | rfl | rfl | rfl | rfl | rfl | rfl | rfl | rfl | rfl | rfl | rfl <;> rfl) ?_
  exact KK
theorem l_t458 {w : pW} {a b q e t T : Nat} {x3 x4 x5 x6 x7 x8 : Int} {Φ : Option Value → pW → Prop} (KK : qE 151 (36, [(10, .int (iI ((t + 1 : Nat) : Int))), (9, .ref q), (8, .int (iI x8)), (7, .int (iI x7)), (6, .int (iI x6)), (5, .int (iI x5)), (4, .int (iI x4)), (3, .int (iI x3)), (2, .int (iI (T : Int))), (0, .ref b), (1, .ref a)], [], w) Φ) : qE 151 (458, [(11, .ref e), (10, .int (iI (t : Int))), (9, .ref q), (8, .int (iI x8)), (7, .int (iI x7)), (6, .int (iI x6)), (5, .int (iI x5)), (4, .int (iI x4)), (3, .int (iI x3)), (2, .int (iI (T : Int))), (0, .ref b), (1, .ref a)], [], w) Φ := by
  refine pe_go (pc := 458) rfl (s_iinc (x := (t : Int)) (y := ((t + 1 : Nat) : Int)) rfl (by omega) (lv' := [(10, .int (iI ((t + 1 : Nat) : Int))), (11, .ref e), (9, .ref q), (8, .int (iI x8)), (7, .int (iI x7)), (6, .int (iI x6)), (5, .int (iI x5)), (4, .int (iI x4)), (3, .int (iI x3)), (2, .int (iI (T : Int))), (0, .ref b), (1, .ref a)]) rfl) ?_
  refine pe_go (pc := 461) rfl s_goto ?_
  refine pe_few (lv := [(10, .int (iI ((t + 1 : Nat) : Int))), (9, .ref q), (8, .int (iI x8)), (7, .int (iI x7)), (6, .int (iI x6)), (5, .int (iI x5)), (4, .int (iI x4)), (3, .int (iI x3)), (2, .int (iI (T : Int))), (0, .ref b), (1, .ref a)]) rfl rfl (by intro q hq; simp only [List.mem_cons, List.not_mem_nil, or_false] at hq; rcases hq with rfl | rfl | rfl | rfl | rfl | rfl | rfl | rfl | rfl | rfl | rfl <;> rfl) ?_
  exact KK
theorem l_row {w : pW} {pre post : pW} {b : Nat} (hb : pre.length = b) {S : St} {L M : List St} {K : St} (hO : OB pre post b S L M K w) {T : Nat} (hT : S.tn = (T : Int)) (hT2 : T ≤ 74) {t p0 p1 p2 : Nat} (ht : t < T) (k3 : S.tri3 t p0 p1 p2) {m : Nat} (hm : w.length = m) {a q : Nat} {x3 x4 x5 x6 x7 x8 : Int} {Φ : Option Value → pW → Prop} (KK : qE 151 (77, [(11, .ref m), (10, .int (iI (t : Int))), (9, .ref q), (8, .int (iI x8)), (7, .int (iI x7)), (6, .int (iI x6)), (5, .int (iI x5)), (4, .int (iI x4)), (3, .int (iI x3)), (2, .int (iI (T : Int))), (0, .ref b), (1, .ref a)], [], w ++ [.inl (0, 3, .inl (fun j => iI (row3 (p0 : Int) (p1 : Int) (p2 : Int) j)))]) Φ) : qE 151 (36, [(10, .int (iI (t : Int))), (9, .ref q), (8, .int (iI x8)), (7, .int (iI x7)), (6, .int (iI x6)), (5, .int (iI x5)), (4, .int (iI x4)), (3, .int (iI x3)), (2, .int (iI (T : Int))), (0, .ref b), (1, .ref a)], [], w) Φ := by
  refine pe_go (pc := 36) rfl (s_iload rfl) ?_
  refine pe_go (pc := 38) rfl (s_iload_n rfl) ?_
  refine pe_go rfl (s_icmp_ge_f ⟨by omega, by omega⟩ ⟨by omega, by omega⟩ (by omega)) ?_
  refine pe_go (pc := 42) rfl (s_iconst (z := 3) rfl) ?_
  refine pe_go (pc := 43) rfl (s_newM (n := 3) hm rfl (by decide)) ?_
  refine pe_go (pc := 45) rfl (s_dup rfl) ?_
  refine pe_go (pc := 46) rfl (s_iconst (z := 0) rfl) ?_
  refine pe_go (pc := 47) rfl (s_aload_n rfl) ?_
  refine pe_go (pc := 48) rfl (s_iload rfl) ?_
  refine pe_go (pc := 50) rfl (s_iconst (z := 0) rfl) ?_
  refine pe_call rfl (s_invV rfl (cell_app (OB.obj hb hO)) rfl rfl) (corner_at hb (OB_app hO _) hT hT2 (t := t) (k := 0) ht (by decide) k3.2.2.1.1) ?_
  refine pe_go (pc := 54) rfl (s_iast (n := 3) (f := fun _ => (0 : Int)) (w' := w ++ [.inl (0, 3, .inl (fun j => iI ((uZ (fun _ => (0 : Int)) 0 (p0 : Int)) j)))]) (get_end hm) (k := 0) (by omega) (by omega) (by decide) (set_end hm)) ?_
  refine pe_go (pc := 55) rfl (s_dup rfl) ?_
  refine pe_go (pc := 56) rfl (s_iconst (z := 1) rfl) ?_
  refine pe_go (pc := 57) rfl (s_aload_n rfl) ?_
  refine pe_go (pc := 58) rfl (s_iload rfl) ?_
  refine pe_go (pc := 60) rfl (s_iconst (z := 1) rfl) ?_
  refine pe_call rfl (s_invV rfl (cell_app (OB.obj hb hO)) rfl rfl) (corner_at hb (OB_app hO _) hT hT2 (t := t) (k := 1) ht (by decide) k3.2.2.1.2.1) ?_
  refine pe_go (pc := 64) rfl (s_iast (n := 3) (f := uZ (fun _ => (0 : Int)) 0 (p0 : Int)) (w' := w ++ [.inl (0, 3, .inl (fun j => iI ((uZ (uZ (fun _ => (0 : Int)) 0 (p0 : Int)) 1 (p1 : Int)) j)))]) (get_end hm) (k := 1) (by omega) (by omega) (by decide) (set_end hm)) ?_
  refine pe_go (pc := 65) rfl (s_dup rfl) ?_
  refine pe_go (pc := 66) rfl (s_iconst (z := 2) rfl) ?_
  refine pe_go (pc := 67) rfl (s_aload_n rfl) ?_
  refine pe_go (pc := 68) rfl (s_iload rfl) ?_
  refine pe_go (pc := 70) rfl (s_iconst (z := 2) rfl) ?_
  refine pe_call rfl (s_invV rfl (cell_app (OB.obj hb hO)) rfl rfl) (corner_at hb (OB_app hO _) hT hT2 (t := t) (k := 2) ht (by decide) k3.2.2.1.2.2) ?_
  refine pe_go (pc := 74) rfl (s_iast (n := 3) (f := uZ (uZ (fun _ => (0 : Int)) 0 (p0 : Int)) 1 (p1 : Int)) (w' := w ++ [.inl (0, 3, .inl (fun j => iI ((uZ (uZ (uZ (fun _ => (0 : Int)) 0 (p0 : Int)) 1 (p1 : Int)) 2 (p2 : Int)) j)))]) (get_end hm) (k := 2) (by omega) (by omega) (by decide) (set_end hm)) ?_
  refine pe_go (pc := 75) rfl (s_astore (lv' := [(11, .ref m), (10, .int (iI (t : Int))), (9, .ref q), (8, .int (iI x8)), (7, .int (iI x7)), (6, .int (iI x6)), (5, .int (iI x5)), (4, .int (iI x4)), (3, .int (iI x3)), (2, .int (iI (T : Int))), (0, .ref b), (1, .ref a)]) rfl) ?_
  refine pe_few (lv := [(11, .ref m), (10, .int (iI (t : Int))), (9, .ref q), (8, .int (iI x8)), (7, .int (iI x7)), (6, .int (iI x6)), (5, .int (iI x5)), (4, .int (iI x4)), (3, .int (iI x3)), (2, .int (iI (T : Int))), (0, .ref b), (1, .ref a)]) rfl rfl (by intro q hq; simp only [List.mem_cons, List.not_mem_nil, or_false] at hq; rcases hq with rfl | rfl | rfl | rfl | rfl | rfl | rfl | rfl | rfl | rfl | rfl | rfl <;> rfl) ?_
  exact KK
theorem l_tris {w0 : pW} {pre post : pW} {b : Nat} (hb : pre.length = b) {S : St} {L M : List St} {K : St} (hO : OB pre post b S L M K w0) {O Q : Nat → Prop} {a : Nat} {X : Sh} {pa fa ha : Nat} {pf gf hf : Nat → Option Nat} {ff : Nat → Nat} (hS : shP w0 O Q a X pa fa ha pf gf hf ff) (hR : Rel S X) {T : Nat} (hT : S.tn = (T : Int)) (hT2 : T ≤ 74) {q m : Nat} {tf : Nat → Option Nat} {tr : Nat → Nat} (hI : tabIn w0.length q tr m) {x4 x5 x6 x7 x8 : Int} {Φ : Option Value → pW → Prop} {n z : Nat} (KK : ∀ (w : pW) (G : Nat → Nat → Int), pfx w0 w → tabAt w q tf tr G → S.tabT T G → w.length = n + T → pwsz w = z + 3 * T → qE 151 (464, [(9, .ref q), (8, .int (iI x8)), (7, .int (iI x7)), (6, .int (iI x6)), (5, .int (iI x5)), (4, .int (iI x4)), (3, .int (iI (S.arF T))), (2, .int (iI (T : Int))), (0, .ref b), (1, .ref a)], [], w) Φ) : ∀ (d t : Nat) (w : pW) (G : Nat → Nat → Int), t + d = T → pfx w0 w → m ≤ w.length → tabAt w q tf tr G → S.tabT t G → w.length = n + t → pwsz w = z + 3 * t → qE 151 (36, [(10, .int (iI (t : Int))), (9, .ref q), (8, .int (iI x8)), (7, .int (iI x7)), (6, .int (iI x6)), (5, .int (iI x5)), (4, .int (iI x4)), (3, .int (iI (S.arF t))), (2, .int (iI (T : Int))), (0, .ref b), (1, .ref a)], [], w) Φ := by
  intro d
  induction d with
  | zero =>
    intro t w G ht hp hm hT9 hG hl hz
    have htT : t = T := by omega
    subst htT
    refine pe_go (pc := 36) rfl (s_iload rfl) ?_
    refine pe_go (pc := 38) rfl (s_iload_n rfl) ?_
    refine pe_go rfl (s_icmp_ge_t ⟨by omega, by omega⟩ ⟨by omega, by omega⟩ (by omega)) ?_
    refine pe_few (lv := [(9, .ref q), (8, .int (iI x8)), (7, .int (iI x7)), (6, .int (iI x6)), (5, .int (iI x5)), (4, .int (iI x4)), (3, .int (iI (S.arF t))), (2, .int (iI (t : Int))), (0, .ref b), (1, .ref a)]) rfl rfl (by intro q hq; simp only [List.mem_cons, List.not_mem_nil, or_false] at hq; rcases hq with rfl | rfl | rfl | rfl | rfl | rfl | rfl | rfl | rfl | rfl <;> rfl) ?_
    exact KK w G hp hT9 hG hl hz
  | succ d ih =>
    intro t w G ht hp hm hT9 hG hl hz
    obtain ⟨p0, p1, p2, k3⟩ := hO.1.tri3 hT (t := t) (by omega)
    obtain ⟨pos1, hO1⟩ := OB_pfx hp hO
    have hp1 : pfx w0 (w ++ [.inl (0, 3, .inl (fun j => iI (row3 (p0 : Int) (p1 : Int) (p2 : Int) j)))]) := pfx_app hp _
    have hU1 := tab_pfx (pfx_app (pfx_refl w) [.inl (0, 3, .inl (fun j => iI (row3 (p0 : Int) (p1 : Int) (p2 : Int) j)))]) hT9
    have he : rowI (w ++ [.inl (0, 3, .inl (fun j => iI (row3 (p0 : Int) (p1 : Int) (p2 : Int) j)))]) w.length 3 (row3 (p0 : Int) (p1 : Int) (p2 : Int)) := get_end rfl
    have hz1 : pwsz (w ++ [.inl (0, 3, .inl (fun j => iI (row3 (p0 : Int) (p1 : Int) (p2 : Int) j)))]) = z + 3 * (t + 1) := by
      rw [pwsz_app, hz]
      show z + 3 * t + (3 + 0) = _
      omega
    have hl1 : (w ++ [(.inl (0, 3, .inl (fun j => iI (row3 (p0 : Int) (p1 : Int) (p2 : Int) j))) : pCell)]).length = n + (t + 1) := by
      rw [List.length_append, hl]; rfl
    refine l_row hb hO1 hT hT2 (by omega) k3 (m := w.length) rfl ?_
    have hew := w.length
    generalize hgm : w.length = m1 at he hm ⊢
    generalize w ++ [.inl (0, 3, .inl (fun j => iI (row3 (p0 : Int) (p1 : Int) (p2 : Int) j)))] = w1 at hp1 hU1 he hz1 hl1 ⊢
    obtain ⟨pos2, hO2⟩ := OB_pfx hp1 hO
    refine l_tri1 hb hO2 (shP_pfx hp1 hS) hR hT hT2 (by omega) k3 he ?_
    refine l_tri2 hb hO2 (shP_pfx hp1 hS) hR hT hT2 (by omega) k3 he ?_
    have hs9 : S.arF t + S.sd3 p0 p1 p2 = S.arF (t + 1) := by
      show _ = S.arF t + S.sd3 (S.cn t 0) (S.cn t 1) (S.cn t 2)
      rw [k3.2.2.1.1, k3.2.2.1.2.1, k3.2.2.1.2.2]
    rw [hs9]
    refine l_t257 ?_
    obtain ⟨⟨q0, q1, q2⟩, -⟩ := k3.1, k3.2
    obtain ⟨g0, g1, g2⟩ := k3.zero hG
    obtain ⟨hIa, hIb⟩ := hI
    have ne01 : p0 ≠ p1 := by have := k3.2.1; omega
    obtain ⟨n01, n12, n20⟩ := St.sd3_ne k3.2.2.2.2.1
    refine l_left0 he hU1 q0 q1 g0 ?_
    have hp2 := pfx_set hp1 (hIa p0 q0).1 (.inl (0, 40, .inl (fun j => iI (uZ (G p0) p1 ((t : Int) + 1) j))))
    have hU2 := tab_set hU1 (fun x hx => (hIa x hx).2.2) hIb (x := p0) (y := p1) q0 ((t : Int) + 1)
    have he2 := cell_set (c' := .inl (0, 40, .inl (fun j => iI (uZ (G p0) p1 ((t : Int) + 1) j)))) he (show tr p0 ≠ m1 by have := (hIa p0 q0).2.1; omega)
    have hz2 := (pwsz_set3 (g := fun j => uZ (G p0) p1 ((t : Int) + 1) j) (hU1.2 p0 q0).2).trans hz1
    have hl2 := (List.length_set (i := tr p0) (a := .inl (0, 40, .inl (fun j => iI (uZ (G p0) p1 ((t : Int) + 1) j))))).trans hl1
    generalize List.set _ (tr p0) _ = w2 at hp2 hU2 he2 hz2 hl2 ⊢
    refine l_left1 he2 hU2 q1 q2 (by rw [updG_at, if_neg (fun z => n01 z.1.symm)]; exact g1) ?_
    have hp3 := pfx_set hp2 (hIa p1 q1).1 (.inl (0, 40, .inl (fun j => iI (uZ ((updG G p0 p1 ((t : Int) + 1)) p1) p2 ((t : Int) + 1) j))))
    have hU3 := tab_set hU2 (fun x hx => (hIa x hx).2.2) hIb (x := p1) (y := p2) q1 ((t : Int) + 1)
    have he3 := cell_set (c' := .inl (0, 40, .inl (fun j => iI (uZ ((updG G p0 p1 ((t : Int) + 1)) p1) p2 ((t : Int) + 1) j)))) he2 (show tr p1 ≠ m1 by have := (hIa p1 q1).2.1; omega)
    have hz3 := (pwsz_set3 (g := fun j => uZ ((updG G p0 p1 ((t : Int) + 1)) p1) p2 ((t : Int) + 1) j) (hU2.2 p1 q1).2).trans hz2
    have hl3 := (List.length_set (i := tr p1) (a := .inl (0, 40, .inl (fun j => iI (uZ ((updG G p0 p1 ((t : Int) + 1)) p1) p2 ((t : Int) + 1) j))))).trans hl2
    generalize List.set _ (tr p1) _ = w3 at hp3 hU3 he3 hz3 hl3 ⊢
    refine l_left2 he3 hU3 q2 q0 (by rw [updG_at, if_neg (fun z => n12 z.1.symm), updG_at, if_neg (fun z => n20 z.1)]; exact g2) ?_
    have hp4 := pfx_set hp3 (hIa p2 q2).1 (.inl (0, 40, .inl (fun j => iI (uZ ((updG (updG G p0 p1 ((t : Int) + 1)) p1 p2 ((t : Int) + 1)) p2) p0 ((t : Int) + 1) j))))
    have hU4 := tab_set hU3 (fun x hx => (hIa x hx).2.2) hIb (x := p2) (y := p0) q2 ((t : Int) + 1)
    have he4 := cell_set (c' := .inl (0, 40, .inl (fun j => iI (uZ ((updG (updG G p0 p1 ((t : Int) + 1)) p1 p2 ((t : Int) + 1)) p2) p0 ((t : Int) + 1) j)))) he3 (show tr p2 ≠ m1 by have := (hIa p2 q2).2.1; omega)
    have hz4 := (pwsz_set3 (g := fun j => uZ ((updG (updG G p0 p1 ((t : Int) + 1)) p1 p2 ((t : Int) + 1)) p2) p0 ((t : Int) + 1) j) (hU3.2 p2 q2).2).trans hz3
    have hl4 := (List.length_set (i := tr p2) (a := .inl (0, 40, .inl (fun j => iI (uZ ((updG (updG G p0 p1 ((t : Int) + 1)) p1 p2 ((t : Int) + 1)) p2) p0 ((t : Int) + 1) j))))).trans hl3
    generalize List.set _ (tr p2) _ = w4 at hp4 hU4 he4 hz4 hl4 ⊢
    refine l_t260 ?_
    obtain ⟨pos5, hO5⟩ := OB_pfx hp4 hO
    refine l_alone hb hO5 (shP_pfx hp4 hS) hR hT hT2 (by omega) k3 he4 ?_ 40 0 (by omega)
    refine l_t458 ?_
    exact ih (t + 1) w4 _ (by omega) hp4 (by omega) hU4 (hO.1.tabT_step hT k3 hG) hl4 hz4
