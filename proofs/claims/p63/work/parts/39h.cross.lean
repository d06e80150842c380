/-! THE CLASS: edges that cross, flipped. Rows laid by program (wip/p63/wk.py, mk39h.py). -/
theorem St.flip_en (S : St) (a b c d : Nat) : (S.flip a b c d).en = S.en := by
  unfold St.flip
  rw [St.put_en, St.put_en]
  rfl
theorem St.flip_ec (S : St) (a b c d : Nat) : (S.flip a b c d).ec = S.ec := by
  unfold St.flip
  rw [St.put_ec, St.put_ec]
  rfl
/-- the edge u v flipped, if it crosses a b and lies over a crease upward -/
def St.fcy (S : St) (a b u v : Nat) : St := if (S.ap (u * 40 + v) ≠ -1 ∧ S.ap (v * 40 + u) ≠ -1) ∧ S.cut u v (S.xs a) (S.ys a) (S.xs b) (S.ys b) ∧ 0 < S.und u v (S.ap (u * 40 + v)).toNat (S.xs (S.ap (v * 40 + u)).toNat) (S.ys (S.ap (v * 40 + u)).toNat) (S.li (S.ap (v * 40 + u)).toNat) then S.flip u v (S.ap (u * 40 + v)).toNat (S.ap (v * 40 + u)).toNat else S
def St.fcl (a b : Nat) : Nat → Nat → St → St
  | 0, _, S => S
  | d + 1, e, S => St.fcl a b d (e + 1) (S.fcy a b (S.e1 e) (S.e2 e))
theorem St.fcy_0 {S : St} {a b u v : Nat} (hz : S.ap (u * 40 + v) = -1 ∨ S.ap (v * 40 + u) = -1) : S.fcy a b u v = S := if_neg (fun z => by have := z.1; omega)
theorem St.fcy_yes {S : St} {a b u v c d : Nat} (h1 : S.ap (u * 40 + v) = (c : Int)) (h2 : S.ap (v * 40 + u) = (d : Int)) (h3 : S.cut u v (S.xs a) (S.ys a) (S.xs b) (S.ys b)) (h4 : 0 < S.und u v c (S.xs d) (S.ys d) (S.li d)) : S.fcy a b u v = S.flip u v c d := by
  unfold St.fcy
  have e1 : (S.ap (u * 40 + v)).toNat = c := by omega
  have e2 : (S.ap (v * 40 + u)).toNat = d := by omega
  rw [e1, e2, if_pos ⟨⟨by omega, by omega⟩, h3, h4⟩]
theorem St.fcy_no {S : St} {a b u v c d : Nat} (h1 : S.ap (u * 40 + v) = (c : Int)) (h2 : S.ap (v * 40 + u) = (d : Int)) (h3 : ¬ (S.cut u v (S.xs a) (S.ys a) (S.xs b) (S.ys b) ∧ 0 < S.und u v c (S.xs d) (S.ys d) (S.li d))) : S.fcy a b u v = S := by
  unfold St.fcy
  have e1 : (S.ap (u * 40 + v)).toNat = c := by omega
  have e2 : (S.ap (v * 40 + u)).toNat = d := by omega
  rw [e1, e2, if_neg (fun z => h3 z.2)]
theorem St.fcy_ok {S : St} {a b u v : Nat} (hu : u < 40) (hv : v < 40) (h : S.wI) : (S.fcy a b u v).wI ∧ (S.fcy a b u v).en = S.en ∧ (S.fcy a b u v).ec = S.ec := by
  unfold St.fcy
  have g1 := h.A (u * 40 + v) (by omega)
  have g2 := h.A (v * 40 + u) (by omega)
  split
  · exact ⟨St.flip_wI hu hv (by omega) (by omega) h, St.flip_en _ _ _ _ _, St.flip_ec _ _ _ _ _⟩
  · exact ⟨h, rfl, rfl⟩
theorem l_cross {pre post : pW} {m : Nat} (hm : pre.length = m) {a b E : Nat} (ha : a < 40) (hb : b < 40) (hE2 : E ≤ 113) : ∀ (n e : Nat) (S : St), e + n = E → S.wI → S.okN → S.ec = (E : Int) → qE 12 (2, [(3, .int (iI (e : Int))), (0, .ref m), (1, .int (iI (a : Int))), (2, .int (iI (b : Int)))], [], (pre ++ (mB m S ++ post))) (fun r' w' => r' = none ∧ w' = pre ++ (mB m (St.fcl a b n e S) ++ post)) := by
  intro n
  induction n with
  | zero =>
    intro e S he h hN hE
    refine pe_go (pc := 2) rfl (s_iload_n rfl) ?_
    refine pe_go (pc := 3) rfl (s_aload_n rfl) ?_
    refine pe_go (pc := 4) rfl (s_getf (v := .int (iI S.ec)) (gA0 hm (mB_0 _ _ _)) rfl) ?_
    refine pe_go rfl (s_icmp_ge_t ⟨by omega, by omega⟩ ⟨by omega, by omega⟩ (by omega)) ?_
    exact pe_ret rfl s_retv ⟨rfl, rfl⟩
  | succ n ih =>
    intro e S he h hN hE
    have hu := St.e1_lt hN (show e < 113 by omega)
    have hv := St.e2_lt hN (show e < 113 by omega)
    have hen1 := St.e1_eq hN (show e < 113 by omega)
    have hen2 := St.e2_eq hN (show e < 113 by omega)
    have ih2 := fun S1 => ih (e + 1) S1 (by omega)
    have hst : St.fcl a b (n + 1) e S = St.fcl a b n (e + 1) (S.fcy a b (S.e1 e) (S.e2 e)) := rfl
    rw [hst]
    generalize S.e1 e = u at hu hen1 ⊢
    generalize S.e2 e = v at hv hen2 ⊢
    have hok := St.fcy_ok (a := a) (b := b) hu hv h
    have hap1 := h.A (u * 40 + v) (by omega)
    have hap2 := h.A (v * 40 + u) (by omega)
    have K : ∀ S1 : St, S.fcy a b u v = S1 → qE 12 (2, [(3, .int (iI ((e + 1 : Nat) : Int))), (0, .ref m), (1, .int (iI (a : Int))), (2, .int (iI (b : Int)))], [], pre ++ (mB m S1 ++ post)) (fun r' w' => r' = none ∧ w' = pre ++ (mB m (St.fcl a b n (e + 1) (S.fcy a b u v)) ++ post)) := fun S1 h1 => by
      subst h1
      exact ih2 _ hok.1 (by unfold St.okN; rw [hok.2.1]; exact hN) (by rw [hok.2.2]; exact hE)
    by_cases hz : S.ap (u * 40 + v) = -1 ∨ S.ap (v * 40 + u) = -1
    · skip
      refine pe_go (pc := 2) rfl (s_iload_n rfl) ?_
      refine pe_go (pc := 3) rfl (s_aload_n rfl) ?_
      refine pe_go (pc := 4) rfl (s_getf (v := .int (iI S.ec)) (gA0 hm (mB_0 _ _ _)) rfl) ?_
      refine pe_go rfl (s_icmp_ge_f ⟨by omega, by omega⟩ ⟨by omega, by omega⟩ (by omega)) ?_
      refine pe_go (pc := 10) rfl (s_aload_n rfl) ?_
      refine pe_go (pc := 11) rfl (s_getf (v := .ref (m + 11)) (gA0 hm (mB_0 _ _ _)) rfl) ?_
      refine pe_go (pc := 14) rfl (s_iconst (z := 2) rfl) ?_
      refine pe_go (pc := 15) rfl (s_iload_n rfl) ?_
      refine pe_go (pc := 16) rfl s_imul ?_
      refine pe_go (pc := 17) rfl (s_iald (n := 226) (f := S.en) (v := (u : Int)) (gA hm (mB_en _ _ _)) (k := 2 * e) (by omega) (by omega) (by decide) hen1) ?_
      refine pe_go (pc := 18) rfl (s_istore (lv' := [(4, .int (iI (u : Int))), (3, .int (iI (e : Int))), (0, .ref m), (1, .int (iI (a : Int))), (2, .int (iI (b : Int)))]) rfl) ?_
      refine pe_go (pc := 20) rfl (s_aload_n rfl) ?_
      refine pe_go (pc := 21) rfl (s_getf (v := .ref (m + 11)) (gA0 hm (mB_0 _ _ _)) rfl) ?_
      refine pe_go (pc := 24) rfl (s_iconst (z := 2) rfl) ?_
      refine pe_go (pc := 25) rfl (s_iload_n rfl) ?_
      refine pe_go (pc := 26) rfl s_imul ?_
      refine pe_go (pc := 27) rfl (s_iconst (z := 1) rfl) ?_
      refine pe_go (pc := 28) rfl s_iadd ?_
      refine pe_go (pc := 29) rfl (s_iald (n := 226) (f := S.en) (v := (v : Int)) (gA hm (mB_en _ _ _)) (k := (2 * e) + 1) (by omega) (by omega) (by decide) hen2) ?_
      refine pe_go (pc := 30) rfl (s_istore (lv' := [(5, .int (iI (v : Int))), (4, .int (iI (u : Int))), (3, .int (iI (e : Int))), (0, .ref m), (1, .int (iI (a : Int))), (2, .int (iI (b : Int)))]) rfl) ?_
      refine pe_go (pc := 32) rfl (s_aload_n rfl) ?_
      refine pe_go (pc := 33) rfl (s_getf (v := .ref (m + 8)) (gA0 hm (mB_0 _ _ _)) rfl) ?_
      refine pe_go (pc := 36) rfl (s_iload rfl) ?_
      refine pe_go (pc := 38) rfl (s_bipush (z := 40) rfl) ?_
      refine pe_go (pc := 40) rfl s_imul ?_
      refine pe_go (pc := 41) rfl (s_iload rfl) ?_
      refine pe_go (pc := 43) rfl s_iadd ?_
      refine pe_go (pc := 44) rfl (s_iald (n := 1600) (f := S.ap) (v := S.ap ((u * 40) + v)) (gA hm (mB_ap _ _ _)) (k := (u * 40) + v) (by omega) (by omega) (by decide) rfl) ?_
      refine pe_go (pc := 45) rfl (s_istore (lv' := [(6, .int (iI (S.ap ((u * 40) + v)))), (5, .int (iI (v : Int))), (4, .int (iI (u : Int))), (3, .int (iI (e : Int))), (0, .ref m), (1, .int (iI (a : Int))), (2, .int (iI (b : Int)))]) rfl) ?_
      refine pe_go (pc := 47) rfl (s_aload_n rfl) ?_
      refine pe_go (pc := 48) rfl (s_getf (v := .ref (m + 8)) (gA0 hm (mB_0 _ _ _)) rfl) ?_
      refine pe_go (pc := 51) rfl (s_iload rfl) ?_
      refine pe_go (pc := 53) rfl (s_bipush (z := 40) rfl) ?_
      refine pe_go (pc := 55) rfl s_imul ?_
      refine pe_go (pc := 56) rfl (s_iload rfl) ?_
      refine pe_go (pc := 58) rfl s_iadd ?_
      refine pe_go (pc := 59) rfl (s_iald (n := 1600) (f := S.ap) (v := S.ap ((v * 40) + u)) (gA hm (mB_ap _ _ _)) (k := (v * 40) + u) (by omega) (by omega) (by decide) rfl) ?_
      refine pe_go (pc := 60) rfl (s_istore (lv' := [(7, .int (iI (S.ap ((v * 40) + u)))), (6, .int (iI (S.ap ((u * 40) + v)))), (5, .int (iI (v : Int))), (4, .int (iI (u : Int))), (3, .int (iI (e : Int))), (0, .ref m), (1, .int (iI (a : Int))), (2, .int (iI (b : Int)))]) rfl) ?_
      refine pe_go (pc := 62) rfl (s_iload rfl) ?_
      refine pe_go (pc := 64) rfl (s_iconst (z := -1) rfl) ?_
      by_cases c1 : (S.ap ((u * 40) + v)) = (-1)
      · skip
        refine pe_go rfl (s_icmp_eq_t ⟨by omega, by omega⟩ ⟨by decide, by decide⟩ c1) ?_
        refine pe_go (pc := 94) rfl (s_iconst (z := 0) rfl) ?_
        refine pe_go (pc := 95) rfl (s_istore (lv' := [(8, .int (iI 0)), (7, .int (iI (S.ap ((v * 40) + u)))), (6, .int (iI (S.ap ((u * 40) + v)))), (5, .int (iI (v : Int))), (4, .int (iI (u : Int))), (3, .int (iI (e : Int))), (0, .ref m), (1, .int (iI (a : Int))), (2, .int (iI (b : Int)))]) rfl) ?_
        refine pe_go (pc := 97) rfl (s_iload rfl) ?_
        refine pe_go rfl (s_if_eq_t ⟨by decide, by decide⟩ (by decide)) ?_
        refine pe_go (pc := 152) rfl (s_iinc (x := (e : Int)) (y := ((e + 1 : Nat) : Int)) rfl (by omega) (lv' := [(3, .int (iI ((e + 1 : Nat) : Int))), (8, .int (iI 0)), (7, .int (iI (S.ap ((v * 40) + u)))), (6, .int (iI (S.ap ((u * 40) + v)))), (5, .int (iI (v : Int))), (4, .int (iI (u : Int))), (0, .ref m), (1, .int (iI (a : Int))), (2, .int (iI (b : Int)))]) rfl) ?_
        refine pe_go (pc := 155) rfl s_goto ?_
        refine pe_few (lv := [(3, .int (iI ((e + 1 : Nat) : Int))), (0, .ref m), (1, .int (iI (a : Int))), (2, .int (iI (b : Int)))]) rfl rfl (by intro q hq; simp only [List.mem_cons, List.not_mem_nil, or_false] at hq; rcases hq with rfl | rfl | rfl | rfl <;> rfl) ?_
        exact K _ (St.fcy_0 hz)
      · skip
        refine pe_go rfl (s_icmp_eq_f ⟨by omega, by omega⟩ ⟨by decide, by decide⟩ c1) ?_
        refine pe_go (pc := 68) rfl (s_iload rfl) ?_
        refine pe_go (pc := 70) rfl (s_iconst (z := -1) rfl) ?_
        by_cases c2 : (S.ap ((v * 40) + u)) = (-1)
        · skip
          refine pe_go rfl (s_icmp_eq_t ⟨by omega, by omega⟩ ⟨by decide, by decide⟩ c2) ?_
          refine pe_go (pc := 94) rfl (s_iconst (z := 0) rfl) ?_
          refine pe_go (pc := 95) rfl (s_istore (lv' := [(8, .int (iI 0)), (7, .int (iI (S.ap ((v * 40) + u)))), (6, .int (iI (S.ap ((u * 40) + v)))), (5, .int (iI (v : Int))), (4, .int (iI (u : Int))), (3, .int (iI (e : Int))), (0, .ref m), (1, .int (iI (a : Int))), (2, .int (iI (b : Int)))]) rfl) ?_
          refine pe_go (pc := 97) rfl (s_iload rfl) ?_
          refine pe_go rfl (s_if_eq_t ⟨by decide, by decide⟩ (by decide)) ?_
          refine pe_go (pc := 152) rfl (s_iinc (x := (e : Int)) (y := ((e + 1 : Nat) : Int)) rfl (by omega) (lv' := [(3, .int (iI ((e + 1 : Nat) : Int))), (8, .int (iI 0)), (7, .int (iI (S.ap ((v * 40) + u)))), (6, .int (iI (S.ap ((u * 40) + v)))), (5, .int (iI (v : Int))), (4, .int (iI (u : Int))), (0, .ref m), (1, .int (iI (a : Int))), (2, .int (iI (b : Int)))]) rfl) ?_
          refine pe_go (pc := 155) rfl s_goto ?_
          refine pe_few (lv := [(3, .int (iI ((e + 1 : Nat) : Int))), (0, .ref m), (1, .int (iI (a : Int))), (2, .int (iI (b : Int)))]) rfl rfl (by intro q hq; simp only [List.mem_cons, List.not_mem_nil, or_false] at hq; rcases hq with rfl | rfl | rfl | rfl <;> rfl) ?_
          exact K _ (St.fcy_0 hz)
        · skip
          refine pe_go rfl (s_icmp_eq_f ⟨by omega, by omega⟩ ⟨by decide, by decide⟩ c2) ?_
          refine pe_go (pc := 74) rfl (s_aload_n rfl) ?_
          refine pe_go (pc := 75) rfl (s_getf (v := .ref (m + 1)) (gA0 hm (mB_0 _ _ _)) rfl) ?_
          refine pe_go (pc := 78) rfl (s_iload rfl) ?_
          refine pe_go (pc := 80) rfl (s_iload rfl) ?_
          refine pe_go (pc := 82) rfl (s_iload_n rfl) ?_
          refine pe_go (pc := 83) rfl (s_iload_n rfl) ?_
          exfalso
          omega
    · obtain ⟨c, hc, hac⟩ : ∃ c : Nat, c < 40 ∧ S.ap (u * 40 + v) = (c : Int) := ⟨(S.ap (u * 40 + v)).toNat, by omega, by omega⟩
      obtain ⟨d, hd, had⟩ : ∃ d : Nat, d < 40 ∧ S.ap (v * 40 + u) = (d : Int) := ⟨(S.ap (v * 40 + u)).toNat, by omega, by omega⟩
      refine pe_go (pc := 2) rfl (s_iload_n rfl) ?_
      refine pe_go (pc := 3) rfl (s_aload_n rfl) ?_
      refine pe_go (pc := 4) rfl (s_getf (v := .int (iI S.ec)) (gA0 hm (mB_0 _ _ _)) rfl) ?_
      refine pe_go rfl (s_icmp_ge_f ⟨by omega, by omega⟩ ⟨by omega, by omega⟩ (by omega)) ?_
      refine pe_go (pc := 10) rfl (s_aload_n rfl) ?_
      refine pe_go (pc := 11) rfl (s_getf (v := .ref (m + 11)) (gA0 hm (mB_0 _ _ _)) rfl) ?_
      refine pe_go (pc := 14) rfl (s_iconst (z := 2) rfl) ?_
      refine pe_go (pc := 15) rfl (s_iload_n rfl) ?_
      refine pe_go (pc := 16) rfl s_imul ?_
      refine pe_go (pc := 17) rfl (s_iald (n := 226) (f := S.en) (v := (u : Int)) (gA hm (mB_en _ _ _)) (k := 2 * e) (by omega) (by omega) (by decide) hen1) ?_
      refine pe_go (pc := 18) rfl (s_istore (lv' := [(4, .int (iI (u : Int))), (3, .int (iI (e : Int))), (0, .ref m), (1, .int (iI (a : Int))), (2, .int (iI (b : Int)))]) rfl) ?_
      refine pe_go (pc := 20) rfl (s_aload_n rfl) ?_
      refine pe_go (pc := 21) rfl (s_getf (v := .ref (m + 11)) (gA0 hm (mB_0 _ _ _)) rfl) ?_
      refine pe_go (pc := 24) rfl (s_iconst (z := 2) rfl) ?_
      refine pe_go (pc := 25) rfl (s_iload_n rfl) ?_
      refine pe_go (pc := 26) rfl s_imul ?_
      refine pe_go (pc := 27) rfl (s_iconst (z := 1) rfl) ?_
      refine pe_go (pc := 28) rfl s_iadd ?_
      refine pe_go (pc := 29) rfl (s_iald (n := 226) (f := S.en) (v := (v : Int)) (gA hm (mB_en _ _ _)) (k := (2 * e) + 1) (by omega) (by omega) (by decide) hen2) ?_
      refine pe_go (pc := 30) rfl (s_istore (lv' := [(5, .int (iI (v : Int))), (4, .int (iI (u : Int))), (3, .int (iI (e : Int))), (0, .ref m), (1, .int (iI (a : Int))), (2, .int (iI (b : Int)))]) rfl) ?_
      refine pe_go (pc := 32) rfl (s_aload_n rfl) ?_
      refine pe_go (pc := 33) rfl (s_getf (v := .ref (m + 8)) (gA0 hm (mB_0 _ _ _)) rfl) ?_
      refine pe_go (pc := 36) rfl (s_iload rfl) ?_
      refine pe_go (pc := 38) rfl (s_bipush (z := 40) rfl) ?_
      refine pe_go (pc := 40) rfl s_imul ?_
      refine pe_go (pc := 41) rfl (s_iload rfl) ?_
      refine pe_go (pc := 43) rfl s_iadd ?_
      refine pe_go (pc := 44) rfl (s_iald (n := 1600) (f := S.ap) (v := (c : Int)) (gA hm (mB_ap _ _ _)) (k := (u * 40) + v) (by omega) (by omega) (by decide) hac) ?_
      refine pe_go (pc := 45) rfl (s_istore (lv' := [(6, .int (iI (c : Int))), (5, .int (iI (v : Int))), (4, .int (iI (u : Int))), (3, .int (iI (e : Int))), (0, .ref m), (1, .int (iI (a : Int))), (2, .int (iI (b : Int)))]) rfl) ?_
      refine pe_go (pc := 47) rfl (s_aload_n rfl) ?_
      refine pe_go (pc := 48) rfl (s_getf (v := .ref (m + 8)) (gA0 hm (mB_0 _ _ _)) rfl) ?_
      refine pe_go (pc := 51) rfl (s_iload rfl) ?_
      refine pe_go (pc := 53) rfl (s_bipush (z := 40) rfl) ?_
      refine pe_go (pc := 55) rfl s_imul ?_
      refine pe_go (pc := 56) rfl (s_iload rfl) ?_
      refine pe_go (pc := 58) rfl s_iadd ?_
      refine pe_go (pc := 59) rfl (s_iald (n := 1600) (f := S.ap) (v := (d : Int)) (gA hm (mB_ap _ _ _)) (k := (v * 40) + u) (by omega) (by omega) (by decide) had) ?_
      refine pe_go (pc := 60) rfl (s_istore (lv' := [(7, .int (iI (d : Int))), (6, .int (iI (c : Int))), (5, .int (iI (v : Int))), (4, .int (iI (u : Int))), (3, .int (iI (e : Int))), (0, .ref m), (1, .int (iI (a : Int))), (2, .int (iI (b : Int)))]) rfl) ?_
      refine pe_go (pc := 62) rfl (s_iload rfl) ?_
      refine pe_go (pc := 64) rfl (s_iconst (z := -1) rfl) ?_
      refine pe_go rfl (s_icmp_eq_f ⟨by omega, by omega⟩ ⟨by decide, by decide⟩ (by omega)) ?_
      refine pe_go (pc := 68) rfl (s_iload rfl) ?_
      refine pe_go (pc := 70) rfl (s_iconst (z := -1) rfl) ?_
      refine pe_go rfl (s_icmp_eq_f ⟨by omega, by omega⟩ ⟨by decide, by decide⟩ (by omega)) ?_
      refine pe_go (pc := 74) rfl (s_aload_n rfl) ?_
      refine pe_go (pc := 75) rfl (s_getf (v := .ref (m + 1)) (gA0 hm (mB_0 _ _ _)) rfl) ?_
      refine pe_go (pc := 78) rfl (s_iload rfl) ?_
      refine pe_go (pc := 80) rfl (s_iload rfl) ?_
      refine pe_go (pc := 82) rfl (s_iload_n rfl) ?_
      refine pe_go (pc := 83) rfl (s_iload_n rfl) ?_
      refine pe_call rfl (s_invV rfl (gA hm (mB_1 _ _ _)) rfl rfl) (c_cutBy hm S hu hv ha hb h.B) ?_
      by_cases b1 : S.cut u v (S.xs a) (S.ys a) (S.xs b) (S.ys b)
      · skip
        refine pe_go rfl (s_ifeq_true (decide_eq_true b1)) ?_
        refine pe_go (pc := 90) rfl (s_iconst (z := 1) rfl) ?_
        refine pe_go (pc := 91) rfl s_goto ?_
        refine pe_go (pc := 95) rfl (s_istore (lv' := [(8, .int (iI 1)), (7, .int (iI (d : Int))), (6, .int (iI (c : Int))), (5, .int (iI (v : Int))), (4, .int (iI (u : Int))), (3, .int (iI (e : Int))), (0, .ref m), (1, .int (iI (a : Int))), (2, .int (iI (b : Int)))]) rfl) ?_
        refine pe_go (pc := 97) rfl (s_iload rfl) ?_
        refine pe_go rfl (s_if_eq_f ⟨by decide, by decide⟩ (by decide)) ?_
        refine pe_go (pc := 102) rfl (s_aload_n rfl) ?_
        refine pe_go (pc := 103) rfl (s_iload rfl) ?_
        refine pe_go (pc := 105) rfl (s_iload rfl) ?_
        refine pe_go (pc := 107) rfl (s_iload rfl) ?_
        refine pe_go (pc := 109) rfl (s_aload_n rfl) ?_
        refine pe_go (pc := 110) rfl (s_getf (v := .ref (m + 1)) (gA0 hm (mB_0 _ _ _)) rfl) ?_
        refine pe_go (pc := 113) rfl (s_getf (v := .ref (m + 2)) (gA hm (mB_1 _ _ _)) rfl) ?_
        refine pe_go (pc := 116) rfl (s_iload rfl) ?_
        refine pe_go (pc := 118) rfl (s_iald (n := 40) (f := S.xs) (v := S.xs d) (gA hm (mB_xs _ _ _)) (k := d) (by omega) (by omega) (by decide) rfl) ?_
        refine pe_go (pc := 119) rfl (s_aload_n rfl) ?_
        refine pe_go (pc := 120) rfl (s_getf (v := .ref (m + 1)) (gA0 hm (mB_0 _ _ _)) rfl) ?_
        refine pe_go (pc := 123) rfl (s_getf (v := .ref (m + 3)) (gA hm (mB_1 _ _ _)) rfl) ?_
        refine pe_go (pc := 126) rfl (s_iload rfl) ?_
        refine pe_go (pc := 128) rfl (s_iald (n := 40) (f := S.ys) (v := S.ys d) (gA hm (mB_ys _ _ _)) (k := d) (by omega) (by omega) (by decide) rfl) ?_
        refine pe_go (pc := 129) rfl (s_aload_n rfl) ?_
        refine pe_go (pc := 130) rfl (s_getf (v := .ref (m + 14)) (gA0 hm (mB_0 _ _ _)) rfl) ?_
        refine pe_go (pc := 133) rfl (s_iload rfl) ?_
        refine pe_go (pc := 135) rfl (s_lald (n := 40) (f := fun j => lI (S.li j)) (gA hm (mB_li _ _ _)) (k := d) (by omega) (by omega) (by decide) rfl) ?_
        refine pe_call rfl (s_invV rfl (gA0 hm (mB_0 _ _ _)) rfl rfl) (c_under hm S hu hv hc h.B (h.B d hd)) ?_
        refine pe_go (pc := 139) rfl s_lconst0 ?_
        rcases Int.lt_trichotomy (S.und u v c (S.xs d) (S.ys d) (S.li d)) 0 with c2 | c2 | c2
        · skip
          refine pe_go rfl (s_lcmp_lt (St.und_b h.B h.I hu hv hc (h.B d hd) (h.I d hd)) ⟨by decide, by decide⟩ c2) ?_
          refine pe_go rfl (s_if_le_t ⟨by decide, by decide⟩ (by decide)) ?_
          refine pe_go (pc := 152) rfl (s_iinc (x := (e : Int)) (y := ((e + 1 : Nat) : Int)) rfl (by omega) (lv' := [(3, .int (iI ((e + 1 : Nat) : Int))), (8, .int (iI 1)), (7, .int (iI (d : Int))), (6, .int (iI (c : Int))), (5, .int (iI (v : Int))), (4, .int (iI (u : Int))), (0, .ref m), (1, .int (iI (a : Int))), (2, .int (iI (b : Int)))]) rfl) ?_
          refine pe_go (pc := 155) rfl s_goto ?_
          refine pe_few (lv := [(3, .int (iI ((e + 1 : Nat) : Int))), (0, .ref m), (1, .int (iI (a : Int))), (2, .int (iI (b : Int)))]) rfl rfl (by intro q hq; simp only [List.mem_cons, List.not_mem_nil, or_false] at hq; rcases hq with rfl | rfl | rfl | rfl <;> rfl) ?_
          exact K _ (St.fcy_no hac had (by rintro ⟨z1, z2⟩; first | exact absurd z1 (by assumption) | omega))
        · skip
          refine pe_go rfl (s_lcmp_eq c2) ?_
          refine pe_go rfl (s_if_le_t ⟨by decide, by decide⟩ (by decide)) ?_
          refine pe_go (pc := 152) rfl (s_iinc (x := (e : Int)) (y := ((e + 1 : Nat) : Int)) rfl (by omega) (lv' := [(3, .int (iI ((e + 1 : Nat) : Int))), (8, .int (iI 1)), (7, .int (iI (d : Int))), (6, .int (iI (c : Int))), (5, .int (iI (v : Int))), (4, .int (iI (u : Int))), (0, .ref m), (1, .int (iI (a : Int))), (2, .int (iI (b : Int)))]) rfl) ?_
          refine pe_go (pc := 155) rfl s_goto ?_
          refine pe_few (lv := [(3, .int (iI ((e + 1 : Nat) : Int))), (0, .ref m), (1, .int (iI (a : Int))), (2, .int (iI (b : Int)))]) rfl rfl (by intro q hq; simp only [List.mem_cons, List.not_mem_nil, or_false] at hq; rcases hq with rfl | rfl | rfl | rfl <;> rfl) ?_
          exact K _ (St.fcy_no hac had (by rintro ⟨z1, z2⟩; first | exact absurd z1 (by assumption) | omega))
        · skip
          refine pe_go rfl (s_lcmp_gt (St.und_b h.B h.I hu hv hc (h.B d hd) (h.I d hd)) ⟨by decide, by decide⟩ c2) ?_
          refine pe_go rfl (s_if_le_f ⟨by decide, by decide⟩ (by decide)) ?_
          refine pe_go (pc := 144) rfl (s_aload_n rfl) ?_
          refine pe_go (pc := 145) rfl (s_iload rfl) ?_
          refine pe_go (pc := 147) rfl (s_iload rfl) ?_
          refine pe_call rfl (s_invV rfl (gA0 hm (mB_0 _ _ _)) rfl rfl) (c_flip hm S hu hv hc hd hac had h.Q) ?_
          refine pe_go (pc := 152) rfl (s_iinc (x := (e : Int)) (y := ((e + 1 : Nat) : Int)) rfl (by omega) (lv' := [(3, .int (iI ((e + 1 : Nat) : Int))), (8, .int (iI 1)), (7, .int (iI (d : Int))), (6, .int (iI (c : Int))), (5, .int (iI (v : Int))), (4, .int (iI (u : Int))), (0, .ref m), (1, .int (iI (a : Int))), (2, .int (iI (b : Int)))]) rfl) ?_
          refine pe_go (pc := 155) rfl s_goto ?_
          refine pe_few (lv := [(3, .int (iI ((e + 1 : Nat) : Int))), (0, .ref m), (1, .int (iI (a : Int))), (2, .int (iI (b : Int)))]) rfl rfl (by intro q hq; simp only [List.mem_cons, List.not_mem_nil, or_false] at hq; rcases hq with rfl | rfl | rfl | rfl <;> rfl) ?_
          exact K _ (St.fcy_yes hac had (by assumption) (by assumption))
      · skip
        refine pe_go rfl (s_ifeq_false (decide_eq_false b1)) ?_
        refine pe_go (pc := 94) rfl (s_iconst (z := 0) rfl) ?_
        refine pe_go (pc := 95) rfl (s_istore (lv' := [(8, .int (iI 0)), (7, .int (iI (d : Int))), (6, .int (iI (c : Int))), (5, .int (iI (v : Int))), (4, .int (iI (u : Int))), (3, .int (iI (e : Int))), (0, .ref m), (1, .int (iI (a : Int))), (2, .int (iI (b : Int)))]) rfl) ?_
        refine pe_go (pc := 97) rfl (s_iload rfl) ?_
        refine pe_go rfl (s_if_eq_t ⟨by decide, by decide⟩ (by decide)) ?_
        refine pe_go (pc := 152) rfl (s_iinc (x := (e : Int)) (y := ((e + 1 : Nat) : Int)) rfl (by omega) (lv' := [(3, .int (iI ((e + 1 : Nat) : Int))), (8, .int (iI 0)), (7, .int (iI (d : Int))), (6, .int (iI (c : Int))), (5, .int (iI (v : Int))), (4, .int (iI (u : Int))), (0, .ref m), (1, .int (iI (a : Int))), (2, .int (iI (b : Int)))]) rfl) ?_
        refine pe_go (pc := 155) rfl s_goto ?_
        refine pe_few (lv := [(3, .int (iI ((e + 1 : Nat) : Int))), (0, .ref m), (1, .int (iI (a : Int))), (2, .int (iI (b : Int)))]) rfl rfl (by intro q hq; simp only [List.mem_cons, List.not_mem_nil, or_false] at hq; rcases hq with rfl | rfl | rfl | rfl <;> rfl) ?_
        exact K _ (St.fcy_no hac had (by rintro ⟨z1, z2⟩; first | exact absurd z1 (by assumption) | omega))
theorem c_cross {pre post : pW} {m : Nat} (hm : pre.length = m) (S : St) {a b E : Nat} (ha : a < 40) (hb : b < 40) (hE : S.ec = (E : Int)) (hE2 : E ≤ 113) (h : S.wI) (hN : S.okN) : pRun 12 [.ref m, .int (iI (a : Int)), .int (iI (b : Int))] (pre ++ (mB m S ++ post)) none (pre ++ (mB m (St.fcl a b E 0 S) ++ post)) := by
  refine qx_run ?_
  refine pc_run (lv := [(0, .ref m), (1, .int (iI (a : Int))), (2, .int (iI (b : Int)))]) rfl ?_
  refine pe_go (pc := 0) rfl (s_iconst (z := 0) rfl) ?_
  refine pe_go (pc := 1) rfl (s_istore_n (lv' := [(3, .int (iI 0)), (0, .ref m), (1, .int (iI (a : Int))), (2, .int (iI (b : Int)))]) rfl) ?_
  refine pe_few (lv := [(3, .int (iI ((0 : Nat) : Int))), (0, .ref m), (1, .int (iI (a : Int))), (2, .int (iI (b : Int)))]) rfl rfl (by intro q hq; simp only [List.mem_cons, List.not_mem_nil, or_false] at hq; rcases hq with rfl | rfl | rfl | rfl <;> rfl) ?_
  exact l_cross hm ha hb hE2 E 0 S (by omega) h hN hE
