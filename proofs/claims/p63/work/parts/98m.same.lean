/-! THE LAW: what is told of each point is what the sheet says. Rows laid by program (wip/p63/wk.py, hw.py, mk98m.py). -/
noncomputable def cntP (P : Nat → Prop) : Nat → Int
  | 0 => 0
  | n + 1 => cntP P n + @ite Int (P n) (Classical.propDecidable _) 1 0
theorem cntP_y {P : Nat → Prop} {n : Nat} (h : P n) : cntP P (n + 1) = cntP P n + 1 := by
  show cntP P n + @ite Int (P n) (Classical.propDecidable _) 1 0 = _
  rw [if_pos h]
theorem cntP_n {P : Nat → Prop} {n : Nat} (h : ¬ P n) : cntP P (n + 1) = cntP P n := by
  show cntP P n + @ite Int (P n) (Classical.propDecidable _) 1 0 = _
  rw [if_neg h, Int.add_zero]
theorem cntP_congr {P Q : Nat → Prop} : ∀ {n : Nat}, (∀ k : Nat, k < n → (P k ↔ Q k)) → cntP P n = cntP Q n
  | 0, _ => rfl
  | n + 1, h => by
    have e := cntP_congr (fun k hk => h k (Nat.lt_succ_of_lt hk))
    by_cases c : P n
    · rw [cntP_y c, cntP_y ((h n (Nat.lt_succ_self n)).mp c), e]
    · rw [cntP_n c, cntP_n (fun z => c ((h n (Nat.lt_succ_self n)).mpr z)), e]
theorem bits_cnt (x : Int64) : ∀ n : Nat, (((List.range n).filter (fun k => bt x k)).length : Int) = cntP (fun k => bt x k = true) n
  | 0 => rfl
  | n + 1 => by
    rw [List.range_succ, List.filter_append, List.length_append, Int.natCast_add, bits_cnt x n]
    by_cases c : bt x n = true
    · rw [cntP_y c]; simp [c]
    · rw [cntP_n c]; simp [c]
theorem cntP_up {P : Nat → Prop} {n : Nat} (h : ∀ k : Nat, n ≤ k → ¬ P k) : ∀ d : Nat, cntP P (n + d) = cntP P n
  | 0 => rfl
  | d + 1 => by
    rw [← Nat.add_assoc, cntP_n (h _ (Nat.le_add_right _ _)), cntP_up h d]
theorem bcnt_40 {x : Int64} (h : ∀ k : Nat, 40 ≤ k → bt x k = false) : (bcnt x : Int) = cntP (fun k => bt x k = true) 40 := by
  unfold bcnt
  rw [bits_cnt, show 64 = 40 + 24 from rfl, cntP_up (fun k hk z => by rw [h k hk] at z; cases z)]
theorem bcnt_le (x : Int64) : bcnt x ≤ 64 := by
  unfold bcnt
  have := List.length_filter_le (fun k => bt x k) (List.range 64)
  rw [List.length_range] at this
  exact this
theorem St.atP_of {S : St} (hd : S.dist) {k : Nat} (hk : k < 40) (sk : S.has k) : S.atP (S.xs k) (S.ys k) = (k : Int) := by
  rcases S.atP_cases (S.xs k) (S.ys k) with ⟨-, h⟩ | ⟨q, hq, e, sq, ex, ey⟩
  · exact absurd ⟨sk, rfl, rfl⟩ (h k hk)
  · rw [e, hd q k hq hk sq sk ex ey]
theorem o_of41 {pre post : pW} {b : Nat} (hb : pre.length = b) {S : St} {L M : List St} {K : St} {w : pW} (hO : OB pre post b S L M K w) {p : Nat} (hp : p < 40) (sp : S.has p) (h : zabs (S.xs p) = 1000 ∨ zabs (S.ys p) = 1000) : pRun 107 [.ref b, .int (iI (p : Int)), .int (iI 4)] w (some (.int (iI 1))) w := by
  have := o_of4 hb hO hp sp
  rw [if_pos h] at this
  exact this
theorem o_of40 {pre post : pW} {b : Nat} (hb : pre.length = b) {S : St} {L M : List St} {K : St} {w : pW} (hO : OB pre post b S L M K w) {p : Nat} (hp : p < 40) (sp : S.has p) (h : ¬ (zabs (S.xs p) = 1000 ∨ zabs (S.ys p) = 1000)) : pRun 107 [.ref b, .int (iI (p : Int)), .int (iI 4)] w (some (.int (iI 0))) w := by
  have := o_of4 hb hO hp sp
  rw [if_neg h] at this
  exact this
theorem zabs_b3 {x : Int} (h1 : -1000 ≤ x) (h2 : x ≤ 1000) : 0 ≤ zabs x ∧ zabs x ≤ 1000 := by
  unfold zabs
  split <;> omega
theorem l_sameC {w : pW} {pre post : pW} {b : Nat} (hb : pre.length = b) {S : St} {L M : List St} {K : St} (hO : OB pre post b S L M K w) {O Q : Nat → Prop} {a : Nat} {X : Sh} {pa fa ha : Nat} {pf gf hf : Nat → Option Nat} {ff : Nat → Nat} (hS : shP w O Q a X pa fa ha pf gf hf ff) (hR : Rel S X) {k r : Nat} (hk : k < 40) {Φ : Option Value → pW → Prop} (KK : qE 154 (74, [(5, .int (iI ((40 : Nat) : Int))), (4, .int (iI (cntP (fun j : Nat => S.bound k j) 40))), (3, .ref r), (2, .int (iI (k : Int))), (0, .ref b), (1, .ref a)], [], w) Φ) : ∀ (d j : Nat) (x : Int), j + d = 40 → x = cntP (fun j : Nat => S.bound k j) j → qE 154 (35, [(5, .int (iI (j : Int))), (4, .int (iI x)), (3, .ref r), (2, .int (iI (k : Int))), (0, .ref b), (1, .ref a)], [], w) Φ := by
  obtain ⟨hb9, h0, h1, h2, h3, h4, h5, h6, h7, h8, h9⟩ := hS
  obtain ⟨ef, -, hf9⟩ := h5 k hk
  intro d
  induction d with
  | zero =>
    intro j x hj hx
    have hj4 : j = 40 := by omega
    subst hj4
    subst hx
    refine pe_go (pc := 35) rfl (s_aload_n rfl) ?_
    refine pe_go (pc := 36) rfl s_ifnull_f ?_
    refine pe_go (pc := 39) rfl (s_iload rfl) ?_
    refine pe_go (pc := 41) rfl (s_bipush (z := 40) rfl) ?_
    refine pe_go rfl (s_icmp_ge_t ⟨by omega, by omega⟩ ⟨by decide, by decide⟩ (by omega)) ?_
    exact KK
  | succ d ih =>
    intro j x hj hx
    have hh := hR.2.2.1 k j hk (by omega)
    have hi := (Rel.In hR hO.1).2.1 k j hk (by omega)
    by_cases c9 : X.2.1 k j ≤ 0
    · have hn : ¬ S.bound k j := St.how_0.mp (by omega)
      refine pe_go (pc := 35) rfl (s_aload_n rfl) ?_
      refine pe_go (pc := 36) rfl s_ifnull_f ?_
      refine pe_go (pc := 39) rfl (s_iload rfl) ?_
      refine pe_go (pc := 41) rfl (s_bipush (z := 40) rfl) ?_
      refine pe_go rfl (s_icmp_ge_f ⟨by omega, by omega⟩ ⟨by decide, by decide⟩ (by omega)) ?_
      refine pe_go (pc := 46) rfl (s_iload rfl) ?_
      refine pe_go (pc := 48) rfl (s_aload_n rfl) ?_
      refine pe_go (pc := 49) rfl (s_getf (v := .ref fa) h0 rfl) ?_
      refine pe_go (pc := 52) rfl (s_iload_n rfl) ?_
      refine pe_go (pc := 53) rfl (s_aald h4 (k := k) (by omega) (by omega) ef) ?_
      refine pe_go (pc := 54) rfl (s_iload rfl) ?_
      refine pe_go (pc := 56) rfl (s_iald (n := 40) (f := X.2.1 k) (v := X.2.1 k j) hf9 (k := j) (by omega) (by omega) (by decide) rfl) ?_
      refine pe_go rfl (s_if_le_t ⟨by omega, by omega⟩ c9) ?_
      refine pe_go (pc := 64) rfl (s_iconst (z := 0) rfl) ?_
      refine pe_go (pc := 65) rfl s_iadd0 ?_
      refine pe_go (pc := 66) rfl (s_istore (lv' := [(4, .int (iI x)), (5, .int (iI (j : Int))), (3, .ref r), (2, .int (iI (k : Int))), (0, .ref b), (1, .ref a)]) rfl) ?_
      refine pe_go (pc := 68) rfl (s_iinc (x := (j : Int)) (y := ((j + 1 : Nat) : Int)) rfl (by omega) (lv' := [(5, .int (iI ((j + 1 : Nat) : Int))), (4, .int (iI x)), (3, .ref r), (2, .int (iI (k : Int))), (0, .ref b), (1, .ref a)]) rfl) ?_
      refine pe_go (pc := 71) rfl s_goto ?_
      refine pe_few (lv := [(5, .int (iI ((j + 1 : Nat) : Int))), (4, .int (iI x)), (3, .ref r), (2, .int (iI (k : Int))), (0, .ref b), (1, .ref a)]) rfl rfl (by intro q hq; simp only [List.mem_cons, List.not_mem_nil, or_false] at hq; rcases hq with rfl | rfl | rfl | rfl | rfl | rfl <;> rfl) ?_
      refine ih (j + 1) _ (by omega) ?_
      rw [hx, cntP_n hn]
    · have hn : S.bound k j := Classical.byContradiction (fun z => by have := St.how_0.mpr z; omega)
      refine pe_go (pc := 35) rfl (s_aload_n rfl) ?_
      refine pe_go (pc := 36) rfl s_ifnull_f ?_
      refine pe_go (pc := 39) rfl (s_iload rfl) ?_
      refine pe_go (pc := 41) rfl (s_bipush (z := 40) rfl) ?_
      refine pe_go rfl (s_icmp_ge_f ⟨by omega, by omega⟩ ⟨by decide, by decide⟩ (by omega)) ?_
      refine pe_go (pc := 46) rfl (s_iload rfl) ?_
      refine pe_go (pc := 48) rfl (s_aload_n rfl) ?_
      refine pe_go (pc := 49) rfl (s_getf (v := .ref fa) h0 rfl) ?_
      refine pe_go (pc := 52) rfl (s_iload_n rfl) ?_
      refine pe_go (pc := 53) rfl (s_aald h4 (k := k) (by omega) (by omega) ef) ?_
      refine pe_go (pc := 54) rfl (s_iload rfl) ?_
      refine pe_go (pc := 56) rfl (s_iald (n := 40) (f := X.2.1 k) (v := X.2.1 k j) hf9 (k := j) (by omega) (by omega) (by decide) rfl) ?_
      refine pe_go rfl (s_if_le_f ⟨by omega, by omega⟩ c9) ?_
      refine pe_go (pc := 60) rfl (s_iconst (z := 1) rfl) ?_
      refine pe_go (pc := 61) rfl s_goto ?_
      refine pe_go (pc := 65) rfl s_iadd ?_
      refine pe_go (pc := 66) rfl (s_istore (lv' := [(4, .int (iI (x + 1))), (5, .int (iI (j : Int))), (3, .ref r), (2, .int (iI (k : Int))), (0, .ref b), (1, .ref a)]) rfl) ?_
      refine pe_go (pc := 68) rfl (s_iinc (x := (j : Int)) (y := ((j + 1 : Nat) : Int)) rfl (by omega) (lv' := [(5, .int (iI ((j + 1 : Nat) : Int))), (4, .int (iI (x + 1))), (3, .ref r), (2, .int (iI (k : Int))), (0, .ref b), (1, .ref a)]) rfl) ?_
      refine pe_go (pc := 71) rfl s_goto ?_
      refine pe_few (lv := [(5, .int (iI ((j + 1 : Nat) : Int))), (4, .int (iI (x + 1))), (3, .ref r), (2, .int (iI (k : Int))), (0, .ref b), (1, .ref a)]) rfl rfl (by intro q hq; simp only [List.mem_cons, List.not_mem_nil, or_false] at hq; rcases hq with rfl | rfl | rfl | rfl | rfl | rfl <;> rfl) ?_
      refine ih (j + 1) _ (by omega) ?_
      rw [hx, cntP_y hn]
theorem l_same {w : pW} {pre post : pW} {b : Nat} (hb : pre.length = b) {S : St} {L M : List St} {K : St} (hO : OB pre post b S L M K w) {O Q : Nat → Prop} {a : Nat} {X : Sh} {pa fa ha : Nat} {pf gf hf : Nat → Option Nat} {ff : Nat → Nat} (hS : shP w O Q a X pa fa ha pf gf hf ff) (hR : Rel S X) {Φ : Option Value → pW → Prop} (KK : qE 154 (283, [(2, .int (iI 41)), (0, .ref b), (1, .ref a)], [], w) Φ) : ∀ (d k : Nat), k + d = 40 → qE 154 (2, [(2, .int (iI (k : Int))), (0, .ref b), (1, .ref a)], [], w) Φ := by
  have hSS := hS
  obtain ⟨hb9, h0, h1, h2, h3, h4, h5, h6, h7, h8, h9⟩ := hS
  intro d
  induction d with
  | zero =>
    intro k hk9
    have hk4 : k = 40 := by omega
    subst hk4
    have e9 : ((40 : Nat) : Int) = 40 := rfl
    rw [e9]
    refine pe_go (pc := 2) rfl (s_iload_n rfl) ?_
    refine pe_go (pc := 3) rfl (s_bipush (z := 41) rfl) ?_
    refine pe_go rfl (s_icmp_ge_f ⟨by decide, by decide⟩ ⟨by decide, by decide⟩ (by decide)) ?_
    refine pe_go (pc := 8) rfl (s_iload_n rfl) ?_
    refine pe_go rfl (s_if_lt_f ⟨by decide, by decide⟩ (by decide)) ?_
    refine pe_go (pc := 12) rfl (s_iload_n rfl) ?_
    refine pe_go (pc := 13) rfl (s_bipush (z := 39) rfl) ?_
    refine pe_go rfl (s_icmp_le_f ⟨by decide, by decide⟩ ⟨by decide, by decide⟩ (by decide)) ?_
    refine pe_go (pc := 18) rfl s_null ?_
    refine pe_go (pc := 19) rfl s_goto ?_
    refine pe_go (pc := 28) rfl (s_astore_nN (lv' := [(3, .null), (2, .int (iI 40)), (0, .ref b), (1, .ref a)]) rfl) ?_
    refine pe_go (pc := 29) rfl (s_iconst (z := 0) rfl) ?_
    refine pe_go (pc := 30) rfl (s_istore (lv' := [(4, .int (iI 0)), (3, .null), (2, .int (iI 40)), (0, .ref b), (1, .ref a)]) rfl) ?_
    refine pe_go (pc := 32) rfl (s_iconst (z := 0) rfl) ?_
    refine pe_go (pc := 33) rfl (s_istore (lv' := [(5, .int (iI 0)), (4, .int (iI 0)), (3, .null), (2, .int (iI 40)), (0, .ref b), (1, .ref a)]) rfl) ?_
    refine pe_go (pc := 35) rfl (s_aload_nN rfl) ?_
    refine pe_go (pc := 36) rfl s_ifnull_t ?_
    refine pe_go (pc := 74) rfl (s_aload_nN rfl) ?_
    refine pe_go (pc := 75) rfl s_ifnonnull_f ?_
    refine pe_go (pc := 78) rfl (s_aload_n rfl) ?_
    refine pe_go (pc := 79) rfl (s_iload_n rfl) ?_
    refine pe_go (pc := 80) rfl (s_iconst (z := 0) rfl) ?_
    refine pe_call rfl (s_invV rfl (OB.obj hb hO) rfl rfl) (o_ofN0 hb hO (z := 40) ⟨by decide, by decide⟩ (Or.inr (Or.inl (by decide)))) ?_
    refine pe_go (pc := 84) rfl (s_ldc (z := -100000) rfl) ?_
    refine pe_go rfl (s_icmp_ne_f ⟨by decide, by decide⟩ ⟨by decide, by decide⟩ (by decide)) ?_
    refine pe_go (pc := 89) rfl (s_aload_n rfl) ?_
    refine pe_go (pc := 90) rfl (s_iload_n rfl) ?_
    refine pe_go (pc := 91) rfl (s_iconst (z := 1) rfl) ?_
    refine pe_call rfl (s_invV rfl (OB.obj hb hO) rfl rfl) (o_ofN1 hb hO (z := 40) ⟨by decide, by decide⟩ (Or.inr (Or.inl (by decide)))) ?_
    refine pe_go (pc := 95) rfl (s_ldc (z := -100000) rfl) ?_
    refine pe_go rfl (s_icmp_ne_f ⟨by decide, by decide⟩ ⟨by decide, by decide⟩ (by decide)) ?_
    refine pe_go (pc := 100) rfl (s_aload_n rfl) ?_
    refine pe_go (pc := 101) rfl (s_iload_n rfl) ?_
    refine pe_go (pc := 102) rfl (s_iconst (z := 2) rfl) ?_
    refine pe_call rfl (s_invV rfl (OB.obj hb hO) rfl rfl) (o_ofN2 hb hO (z := 40) ⟨by decide, by decide⟩ (Or.inr (Or.inl (by decide)))) ?_
    refine pe_go (pc := 106) rfl (s_iconst (z := -1) rfl) ?_
    refine pe_go rfl (s_icmp_ne_f ⟨by decide, by decide⟩ ⟨by decide, by decide⟩ (by decide)) ?_
    refine pe_go (pc := 110) rfl (s_aload_n rfl) ?_
    refine pe_go (pc := 111) rfl (s_iload_n rfl) ?_
    refine pe_go (pc := 112) rfl (s_iconst (z := 3) rfl) ?_
    refine pe_call rfl (s_invV rfl (OB.obj hb hO) rfl rfl) (o_ofN3 hb hO (z := 40) ⟨by decide, by decide⟩ (Or.inr (Or.inl (by decide)))) ?_
    refine pe_go (pc := 116) rfl (s_iconst (z := -1) rfl) ?_
    refine pe_go rfl (s_icmp_ne_f ⟨by decide, by decide⟩ ⟨by decide, by decide⟩ (by decide)) ?_
    refine pe_go (pc := 120) rfl (s_aload_n rfl) ?_
    refine pe_go (pc := 121) rfl (s_iload_n rfl) ?_
    refine pe_go (pc := 122) rfl (s_iconst (z := 4) rfl) ?_
    refine pe_call rfl (s_invV rfl (OB.obj hb hO) rfl rfl) (o_ofN4 hb hO (z := 40) ⟨by decide, by decide⟩ (Or.inr (Or.inl (by decide)))) ?_
    refine pe_go (pc := 126) rfl (s_iconst (z := -1) rfl) ?_
    refine pe_go rfl (s_icmp_ne_f ⟨by decide, by decide⟩ ⟨by decide, by decide⟩ (by decide)) ?_
    refine pe_go (pc := 130) rfl (s_aload_n rfl) ?_
    refine pe_go (pc := 131) rfl (s_iload_n rfl) ?_
    refine pe_go (pc := 132) rfl (s_iconst (z := 5) rfl) ?_
    refine pe_call rfl (s_invV rfl (OB.obj hb hO) rfl rfl) (o_ofN5 hb hO (z := 40) ⟨by decide, by decide⟩ (Or.inr (Or.inl (by decide)))) ?_
    refine pe_go (pc := 136) rfl (s_ldc (z := -100000) rfl) ?_
    refine pe_go rfl (s_icmp_ne_f ⟨by decide, by decide⟩ ⟨by decide, by decide⟩ (by decide)) ?_
    refine pe_go (pc := 141) rfl (s_aload_n rfl) ?_
    refine pe_go (pc := 142) rfl (s_iload_n rfl) ?_
    refine pe_go (pc := 143) rfl (s_iconst (z := 0) rfl) ?_
    refine pe_call rfl (s_invV rfl (OB.obj hb hO) rfl rfl) (o_starN hb hO (z := 40) (y := 0) ⟨by decide, by decide⟩ (Or.inr (Or.inl (by decide)))) ?_
    refine pe_go (pc := 147) rfl (s_iconst (z := -1) rfl) ?_
    refine pe_go rfl (s_icmp_eq_t ⟨by decide, by decide⟩ ⟨by decide, by decide⟩ (by decide)) ?_
    refine pe_go (pc := 277) rfl (s_iinc (x := 40) (y := 41) rfl (by omega) (lv' := [(2, .int (iI 41)), (5, .int (iI 0)), (4, .int (iI 0)), (3, .null), (0, .ref b), (1, .ref a)]) rfl) ?_
    refine pe_go (pc := 280) rfl s_goto ?_
    refine pe_go (pc := 2) rfl (s_iload_n rfl) ?_
    refine pe_go (pc := 3) rfl (s_bipush (z := 41) rfl) ?_
    refine pe_go rfl (s_icmp_ge_t ⟨by decide, by decide⟩ ⟨by decide, by decide⟩ (by decide)) ?_
    refine pe_few (lv := [(2, .int (iI 41)), (0, .ref b), (1, .ref a)]) rfl rfl (by intro q hq; simp only [List.mem_cons, List.not_mem_nil, or_false] at hq; rcases hq with rfl | rfl | rfl <;> rfl) ?_
    exact KK
  | succ d ih =>
    intro k hk9
    have hk : k < 40 := by omega
    by_cases sk : S.has k
    · have e1 := Sh.of_some ((hR.1 k hk).mpr sk)
      obtain ⟨r, er, -, hr⟩ := h3 k _ _ _ hk e1
      obtain ⟨⟨i1, i2, i3, i4⟩, i5, i6⟩ := (Rel.In hR hO.1).1 k _ _ _ hk e1
      obtain ⟨q1, q2, q3⟩ := hR.2.1 k hk sk
      have z1 := zabs_b3 i1 i2
      have z2 := zabs_b3 i3 i4
      have hbc := bcnt_le (S.fx k)
      have hec := bcnt_40 (hO.1.2.2.2.2.2.2.2.1 k hk)
      have hat : S.atP (X.cx k) (X.cy k) = (k : Int) := by rw [q1, q2]; exact St.atP_of hO.1.1.1.1.2.1 hk sk
      refine pe_go (pc := 2) rfl (s_iload_n rfl) ?_
      refine pe_go (pc := 3) rfl (s_bipush (z := 41) rfl) ?_
      refine pe_go rfl (s_icmp_ge_f ⟨by omega, by omega⟩ ⟨by decide, by decide⟩ (by omega)) ?_
      refine pe_go (pc := 8) rfl (s_iload_n rfl) ?_
      refine pe_go rfl (s_if_lt_f ⟨by omega, by omega⟩ (by omega)) ?_
      refine pe_go (pc := 12) rfl (s_iload_n rfl) ?_
      refine pe_go (pc := 13) rfl (s_bipush (z := 39) rfl) ?_
      refine pe_go rfl (s_icmp_le_t ⟨by omega, by omega⟩ ⟨by decide, by decide⟩ (by omega)) ?_
      refine pe_go (pc := 22) rfl (s_aload_n rfl) ?_
      refine pe_go (pc := 23) rfl (s_getf (v := .ref pa) h0 rfl) ?_
      refine pe_go (pc := 26) rfl (s_iload_n rfl) ?_
      refine pe_go (pc := 27) rfl (s_aald h1 (k := k) (by omega) (by omega) er) ?_
      refine pe_go (pc := 28) rfl (s_astore_n (lv' := [(3, .ref r), (2, .int (iI (k : Int))), (0, .ref b), (1, .ref a)]) rfl) ?_
      refine pe_go (pc := 29) rfl (s_iconst (z := 0) rfl) ?_
      refine pe_go (pc := 30) rfl (s_istore (lv' := [(4, .int (iI 0)), (3, .ref r), (2, .int (iI (k : Int))), (0, .ref b), (1, .ref a)]) rfl) ?_
      refine pe_go (pc := 32) rfl (s_iconst (z := 0) rfl) ?_
      refine pe_go (pc := 33) rfl (s_istore (lv' := [(5, .int (iI 0)), (4, .int (iI 0)), (3, .ref r), (2, .int (iI (k : Int))), (0, .ref b), (1, .ref a)]) rfl) ?_
      refine pe_few (lv := [(5, .int (iI ((0 : Nat) : Int))), (4, .int (iI 0)), (3, .ref r), (2, .int (iI (k : Int))), (0, .ref b), (1, .ref a)]) rfl rfl (by intro q hq; simp only [List.mem_cons, List.not_mem_nil, or_false] at hq; rcases hq with rfl | rfl | rfl | rfl | rfl | rfl <;> rfl) ?_
      refine l_sameC hb hO hSS hR hk ?_ 40 0 0 (by omega) rfl
      rw [← hec]
      by_cases hb4 : zabs (S.xs k) = 1000 ∨ zabs (S.ys k) = 1000
      · have hb5 := hb4
        rw [← q1, ← q2] at hb5
        refine pe_go (pc := 74) rfl (s_aload_n rfl) ?_
        refine pe_go (pc := 75) rfl s_ifnonnull_t ?_
        refine pe_go (pc := 153) rfl (s_aload_n rfl) ?_
        refine pe_go (pc := 154) rfl (s_iconst (z := 0) rfl) ?_
        refine pe_go (pc := 155) rfl (s_iald (n := 3) (f := row3 (X.cx k) (X.cy k) (X.cz k)) (v := X.cx k) hr (k := 0) (by omega) (by omega) (by decide) rfl) ?_
        refine pe_call rfl (s_invS rfl rfl rfl) (c_abs ⟨by omega, by omega⟩) ?_
        refine pe_go (pc := 159) rfl (s_sipush (z := 1000) rfl) ?_
        by_cases c1 : (zabs (X.cx k)) = 1000
        · skip
          refine pe_go rfl (s_icmp_eq_t ⟨by omega, by omega⟩ ⟨by decide, by decide⟩ c1) ?_
          refine pe_go (pc := 177) rfl (s_iconst (z := 1) rfl) ?_
          refine pe_go (pc := 178) rfl s_goto ?_
          refine pe_go (pc := 182) rfl (s_istore (lv' := [(5, .int (iI 1)), (4, .int (iI (bcnt (S.fx k) : Int))), (3, .ref r), (2, .int (iI (k : Int))), (0, .ref b), (1, .ref a)]) rfl) ?_
          refine pe_go (pc := 184) rfl (s_aload_n rfl) ?_
          refine pe_go (pc := 185) rfl (s_iload_n rfl) ?_
          refine pe_go (pc := 186) rfl (s_iconst (z := 0) rfl) ?_
          refine pe_call rfl (s_invV rfl (OB.obj hb hO) rfl rfl) (o_of0 hb hO hk sk) ?_
          refine pe_go (pc := 190) rfl (s_aload_n rfl) ?_
          refine pe_go (pc := 191) rfl (s_iconst (z := 0) rfl) ?_
          refine pe_go (pc := 192) rfl (s_iald (n := 3) (f := row3 (X.cx k) (X.cy k) (X.cz k)) (v := X.cx k) hr (k := 0) (by omega) (by omega) (by decide) rfl) ?_
          refine pe_go rfl (s_icmp_ne_f ⟨by omega, by omega⟩ ⟨by omega, by omega⟩ (by omega)) ?_
          refine pe_go (pc := 196) rfl (s_aload_n rfl) ?_
          refine pe_go (pc := 197) rfl (s_iload_n rfl) ?_
          refine pe_go (pc := 198) rfl (s_iconst (z := 1) rfl) ?_
          refine pe_call rfl (s_invV rfl (OB.obj hb hO) rfl rfl) (o_of1 hb hO hk sk) ?_
          refine pe_go (pc := 202) rfl (s_aload_n rfl) ?_
          refine pe_go (pc := 203) rfl (s_iconst (z := 1) rfl) ?_
          refine pe_go (pc := 204) rfl (s_iald (n := 3) (f := row3 (X.cx k) (X.cy k) (X.cz k)) (v := X.cy k) hr (k := 1) (by omega) (by omega) (by decide) rfl) ?_
          refine pe_go rfl (s_icmp_ne_f ⟨by omega, by omega⟩ ⟨by omega, by omega⟩ (by omega)) ?_
          refine pe_go (pc := 208) rfl (s_aload_n rfl) ?_
          refine pe_go (pc := 209) rfl (s_iload_n rfl) ?_
          refine pe_go (pc := 210) rfl (s_iconst (z := 3) rfl) ?_
          refine pe_call rfl (s_invV rfl (OB.obj hb hO) rfl rfl) (o_of3 hb hO hk sk) ?_
          refine pe_go (pc := 214) rfl (s_iload rfl) ?_
          refine pe_go rfl (s_icmp_ne_f ⟨by omega, by omega⟩ ⟨by omega, by omega⟩ (by omega)) ?_
          refine pe_go (pc := 219) rfl (s_aload_n rfl) ?_
          refine pe_go (pc := 220) rfl (s_iload_n rfl) ?_
          refine pe_go (pc := 221) rfl (s_iconst (z := 4) rfl) ?_
          refine pe_call rfl (s_invV rfl (OB.obj hb hO) rfl rfl) (o_of41 hb hO hk sk hb4) ?_
          refine pe_go (pc := 225) rfl (s_iload rfl) ?_
          refine pe_go rfl (s_if_eq_f ⟨by decide, by decide⟩ (by decide)) ?_
          refine pe_go (pc := 230) rfl (s_iconst (z := 1) rfl) ?_
          refine pe_go (pc := 231) rfl s_goto ?_
          refine pe_go rfl (s_icmp_ne_f ⟨by decide, by decide⟩ ⟨by decide, by decide⟩ (by decide)) ?_
          refine pe_go (pc := 238) rfl (s_aload_n rfl) ?_
          refine pe_go (pc := 239) rfl (s_iload_n rfl) ?_
          refine pe_go (pc := 240) rfl (s_iconst (z := 5) rfl) ?_
          refine pe_call rfl (s_invV rfl (OB.obj hb hO) rfl rfl) (o_of5 hb hO hk sk) ?_
          refine pe_go (pc := 244) rfl (s_aload_n rfl) ?_
          refine pe_go (pc := 245) rfl (s_iconst (z := 2) rfl) ?_
          refine pe_go (pc := 246) rfl (s_iald (n := 3) (f := row3 (X.cx k) (X.cy k) (X.cz k)) (v := X.cz k) hr (k := 2) (by omega) (by omega) (by decide) rfl) ?_
          refine pe_go rfl (s_icmp_ne_f ⟨by omega, by omega⟩ ⟨by omega, by omega⟩ (by omega)) ?_
          refine pe_go (pc := 250) rfl (s_aload_n rfl) ?_
          refine pe_go (pc := 251) rfl (s_iload_n rfl) ?_
          refine pe_go (pc := 252) rfl (s_bipush (z := 6) rfl) ?_
          refine pe_call rfl (s_invV rfl (OB.obj hb hO) rfl rfl) (o_of6 hb hO hk sk) ?_
          refine pe_go (pc := 257) rfl (s_iconst (z := -1) rfl) ?_
          refine pe_go rfl (s_icmp_ne_f ⟨by decide, by decide⟩ ⟨by decide, by decide⟩ (by decide)) ?_
          refine pe_go (pc := 261) rfl (s_aload_n rfl) ?_
          refine pe_go (pc := 262) rfl (s_aload_n rfl) ?_
          refine pe_go (pc := 263) rfl (s_iconst (z := 0) rfl) ?_
          refine pe_go (pc := 264) rfl (s_iald (n := 3) (f := row3 (X.cx k) (X.cy k) (X.cz k)) (v := X.cx k) hr (k := 0) (by omega) (by omega) (by decide) rfl) ?_
          refine pe_go (pc := 265) rfl (s_aload_n rfl) ?_
          refine pe_go (pc := 266) rfl (s_iconst (z := 1) rfl) ?_
          refine pe_go (pc := 267) rfl (s_iald (n := 3) (f := row3 (X.cx k) (X.cy k) (X.cz k)) (v := X.cy k) hr (k := 1) (by omega) (by omega) (by decide) rfl) ?_
          refine pe_call rfl (s_invV rfl (OB.obj hb hO) rfl rfl) (o_at hb hO (x := X.cx k) (y := X.cy k) ⟨by omega, by omega⟩ ⟨by omega, by omega⟩) ?_
          refine pe_go (pc := 271) rfl (s_iload_n rfl) ?_
          refine pe_go rfl (s_icmp_eq_t ⟨by omega, by omega⟩ ⟨by omega, by omega⟩ (by omega)) ?_
          refine pe_go (pc := 277) rfl (s_iinc (x := (k : Int)) (y := ((k + 1 : Nat) : Int)) rfl (by omega) (lv' := [(2, .int (iI ((k + 1 : Nat) : Int))), (5, .int (iI 1)), (4, .int (iI (bcnt (S.fx k) : Int))), (3, .ref r), (0, .ref b), (1, .ref a)]) rfl) ?_
          refine pe_go (pc := 280) rfl s_goto ?_
          refine pe_few (lv := [(2, .int (iI ((k + 1 : Nat) : Int))), (0, .ref b), (1, .ref a)]) rfl rfl (by intro q hq; simp only [List.mem_cons, List.not_mem_nil, or_false] at hq; rcases hq with rfl | rfl | rfl <;> rfl) ?_
          exact ih (k + 1) (by omega)
        · skip
          refine pe_go rfl (s_icmp_eq_f ⟨by omega, by omega⟩ ⟨by decide, by decide⟩ c1) ?_
          refine pe_go (pc := 165) rfl (s_aload_n rfl) ?_
          refine pe_go (pc := 166) rfl (s_iconst (z := 1) rfl) ?_
          refine pe_go (pc := 167) rfl (s_iald (n := 3) (f := row3 (X.cx k) (X.cy k) (X.cz k)) (v := X.cy k) hr (k := 1) (by omega) (by omega) (by decide) rfl) ?_
          refine pe_call rfl (s_invS rfl rfl rfl) (c_abs ⟨by omega, by omega⟩) ?_
          refine pe_go (pc := 171) rfl (s_sipush (z := 1000) rfl) ?_
          refine pe_go rfl (s_icmp_ne_f ⟨by omega, by omega⟩ ⟨by decide, by decide⟩ (by omega)) ?_
          refine pe_go (pc := 177) rfl (s_iconst (z := 1) rfl) ?_
          refine pe_go (pc := 178) rfl s_goto ?_
          refine pe_go (pc := 182) rfl (s_istore (lv' := [(5, .int (iI 1)), (4, .int (iI (bcnt (S.fx k) : Int))), (3, .ref r), (2, .int (iI (k : Int))), (0, .ref b), (1, .ref a)]) rfl) ?_
          refine pe_go (pc := 184) rfl (s_aload_n rfl) ?_
          refine pe_go (pc := 185) rfl (s_iload_n rfl) ?_
          refine pe_go (pc := 186) rfl (s_iconst (z := 0) rfl) ?_
          refine pe_call rfl (s_invV rfl (OB.obj hb hO) rfl rfl) (o_of0 hb hO hk sk) ?_
          refine pe_go (pc := 190) rfl (s_aload_n rfl) ?_
          refine pe_go (pc := 191) rfl (s_iconst (z := 0) rfl) ?_
          refine pe_go (pc := 192) rfl (s_iald (n := 3) (f := row3 (X.cx k) (X.cy k) (X.cz k)) (v := X.cx k) hr (k := 0) (by omega) (by omega) (by decide) rfl) ?_
          refine pe_go rfl (s_icmp_ne_f ⟨by omega, by omega⟩ ⟨by omega, by omega⟩ (by omega)) ?_
          refine pe_go (pc := 196) rfl (s_aload_n rfl) ?_
          refine pe_go (pc := 197) rfl (s_iload_n rfl) ?_
          refine pe_go (pc := 198) rfl (s_iconst (z := 1) rfl) ?_
          refine pe_call rfl (s_invV rfl (OB.obj hb hO) rfl rfl) (o_of1 hb hO hk sk) ?_
          refine pe_go (pc := 202) rfl (s_aload_n rfl) ?_
          refine pe_go (pc := 203) rfl (s_iconst (z := 1) rfl) ?_
          refine pe_go (pc := 204) rfl (s_iald (n := 3) (f := row3 (X.cx k) (X.cy k) (X.cz k)) (v := X.cy k) hr (k := 1) (by omega) (by omega) (by decide) rfl) ?_
          refine pe_go rfl (s_icmp_ne_f ⟨by omega, by omega⟩ ⟨by omega, by omega⟩ (by omega)) ?_
          refine pe_go (pc := 208) rfl (s_aload_n rfl) ?_
          refine pe_go (pc := 209) rfl (s_iload_n rfl) ?_
          refine pe_go (pc := 210) rfl (s_iconst (z := 3) rfl) ?_
          refine pe_call rfl (s_invV rfl (OB.obj hb hO) rfl rfl) (o_of3 hb hO hk sk) ?_
          refine pe_go (pc := 214) rfl (s_iload rfl) ?_
          refine pe_go rfl (s_icmp_ne_f ⟨by omega, by omega⟩ ⟨by omega, by omega⟩ (by omega)) ?_
          refine pe_go (pc := 219) rfl (s_aload_n rfl) ?_
          refine pe_go (pc := 220) rfl (s_iload_n rfl) ?_
          refine pe_go (pc := 221) rfl (s_iconst (z := 4) rfl) ?_
          refine pe_call rfl (s_invV rfl (OB.obj hb hO) rfl rfl) (o_of41 hb hO hk sk hb4) ?_
          refine pe_go (pc := 225) rfl (s_iload rfl) ?_
          refine pe_go rfl (s_if_eq_f ⟨by decide, by decide⟩ (by decide)) ?_
          refine pe_go (pc := 230) rfl (s_iconst (z := 1) rfl) ?_
          refine pe_go (pc := 231) rfl s_goto ?_
          refine pe_go rfl (s_icmp_ne_f ⟨by decide, by decide⟩ ⟨by decide, by decide⟩ (by decide)) ?_
          refine pe_go (pc := 238) rfl (s_aload_n rfl) ?_
          refine pe_go (pc := 239) rfl (s_iload_n rfl) ?_
          refine pe_go (pc := 240) rfl (s_iconst (z := 5) rfl) ?_
          refine pe_call rfl (s_invV rfl (OB.obj hb hO) rfl rfl) (o_of5 hb hO hk sk) ?_
          refine pe_go (pc := 244) rfl (s_aload_n rfl) ?_
          refine pe_go (pc := 245) rfl (s_iconst (z := 2) rfl) ?_
          refine pe_go (pc := 246) rfl (s_iald (n := 3) (f := row3 (X.cx k) (X.cy k) (X.cz k)) (v := X.cz k) hr (k := 2) (by omega) (by omega) (by decide) rfl) ?_
          refine pe_go rfl (s_icmp_ne_f ⟨by omega, by omega⟩ ⟨by omega, by omega⟩ (by omega)) ?_
          refine pe_go (pc := 250) rfl (s_aload_n rfl) ?_
          refine pe_go (pc := 251) rfl (s_iload_n rfl) ?_
          refine pe_go (pc := 252) rfl (s_bipush (z := 6) rfl) ?_
          refine pe_call rfl (s_invV rfl (OB.obj hb hO) rfl rfl) (o_of6 hb hO hk sk) ?_
          refine pe_go (pc := 257) rfl (s_iconst (z := -1) rfl) ?_
          refine pe_go rfl (s_icmp_ne_f ⟨by decide, by decide⟩ ⟨by decide, by decide⟩ (by decide)) ?_
          refine pe_go (pc := 261) rfl (s_aload_n rfl) ?_
          refine pe_go (pc := 262) rfl (s_aload_n rfl) ?_
          refine pe_go (pc := 263) rfl (s_iconst (z := 0) rfl) ?_
          refine pe_go (pc := 264) rfl (s_iald (n := 3) (f := row3 (X.cx k) (X.cy k) (X.cz k)) (v := X.cx k) hr (k := 0) (by omega) (by omega) (by decide) rfl) ?_
          refine pe_go (pc := 265) rfl (s_aload_n rfl) ?_
          refine pe_go (pc := 266) rfl (s_iconst (z := 1) rfl) ?_
          refine pe_go (pc := 267) rfl (s_iald (n := 3) (f := row3 (X.cx k) (X.cy k) (X.cz k)) (v := X.cy k) hr (k := 1) (by omega) (by omega) (by decide) rfl) ?_
          refine pe_call rfl (s_invV rfl (OB.obj hb hO) rfl rfl) (o_at hb hO (x := X.cx k) (y := X.cy k) ⟨by omega, by omega⟩ ⟨by omega, by omega⟩) ?_
          refine pe_go (pc := 271) rfl (s_iload_n rfl) ?_
          refine pe_go rfl (s_icmp_eq_t ⟨by omega, by omega⟩ ⟨by omega, by omega⟩ (by omega)) ?_
          refine pe_go (pc := 277) rfl (s_iinc (x := (k : Int)) (y := ((k + 1 : Nat) : Int)) rfl (by omega) (lv' := [(2, .int (iI ((k + 1 : Nat) : Int))), (5, .int (iI 1)), (4, .int (iI (bcnt (S.fx k) : Int))), (3, .ref r), (0, .ref b), (1, .ref a)]) rfl) ?_
          refine pe_go (pc := 280) rfl s_goto ?_
          refine pe_few (lv := [(2, .int (iI ((k + 1 : Nat) : Int))), (0, .ref b), (1, .ref a)]) rfl rfl (by intro q hq; simp only [List.mem_cons, List.not_mem_nil, or_false] at hq; rcases hq with rfl | rfl | rfl <;> rfl) ?_
          exact ih (k + 1) (by omega)
      · have hb5 := hb4
        rw [← q1, ← q2] at hb5
        refine pe_go (pc := 74) rfl (s_aload_n rfl) ?_
        refine pe_go (pc := 75) rfl s_ifnonnull_t ?_
        refine pe_go (pc := 153) rfl (s_aload_n rfl) ?_
        refine pe_go (pc := 154) rfl (s_iconst (z := 0) rfl) ?_
        refine pe_go (pc := 155) rfl (s_iald (n := 3) (f := row3 (X.cx k) (X.cy k) (X.cz k)) (v := X.cx k) hr (k := 0) (by omega) (by omega) (by decide) rfl) ?_
        refine pe_call rfl (s_invS rfl rfl rfl) (c_abs ⟨by omega, by omega⟩) ?_
        refine pe_go (pc := 159) rfl (s_sipush (z := 1000) rfl) ?_
        refine pe_go rfl (s_icmp_eq_f ⟨by omega, by omega⟩ ⟨by decide, by decide⟩ (by omega)) ?_
        refine pe_go (pc := 165) rfl (s_aload_n rfl) ?_
        refine pe_go (pc := 166) rfl (s_iconst (z := 1) rfl) ?_
        refine pe_go (pc := 167) rfl (s_iald (n := 3) (f := row3 (X.cx k) (X.cy k) (X.cz k)) (v := X.cy k) hr (k := 1) (by omega) (by omega) (by decide) rfl) ?_
        refine pe_call rfl (s_invS rfl rfl rfl) (c_abs ⟨by omega, by omega⟩) ?_
        refine pe_go (pc := 171) rfl (s_sipush (z := 1000) rfl) ?_
        refine pe_go rfl (s_icmp_ne_t ⟨by omega, by omega⟩ ⟨by decide, by decide⟩ (by omega)) ?_
        refine pe_go (pc := 181) rfl (s_iconst (z := 0) rfl) ?_
        refine pe_go (pc := 182) rfl (s_istore (lv' := [(5, .int (iI 0)), (4, .int (iI (bcnt (S.fx k) : Int))), (3, .ref r), (2, .int (iI (k : Int))), (0, .ref b), (1, .ref a)]) rfl) ?_
        refine pe_go (pc := 184) rfl (s_aload_n rfl) ?_
        refine pe_go (pc := 185) rfl (s_iload_n rfl) ?_
        refine pe_go (pc := 186) rfl (s_iconst (z := 0) rfl) ?_
        refine pe_call rfl (s_invV rfl (OB.obj hb hO) rfl rfl) (o_of0 hb hO hk sk) ?_
        refine pe_go (pc := 190) rfl (s_aload_n rfl) ?_
        refine pe_go (pc := 191) rfl (s_iconst (z := 0) rfl) ?_
        refine pe_go (pc := 192) rfl (s_iald (n := 3) (f := row3 (X.cx k) (X.cy k) (X.cz k)) (v := X.cx k) hr (k := 0) (by omega) (by omega) (by decide) rfl) ?_
        refine pe_go rfl (s_icmp_ne_f ⟨by omega, by omega⟩ ⟨by omega, by omega⟩ (by omega)) ?_
        refine pe_go (pc := 196) rfl (s_aload_n rfl) ?_
        refine pe_go (pc := 197) rfl (s_iload_n rfl) ?_
        refine pe_go (pc := 198) rfl (s_iconst (z := 1) rfl) ?_
        refine pe_call rfl (s_invV rfl (OB.obj hb hO) rfl rfl) (o_of1 hb hO hk sk) ?_
        refine pe_go (pc := 202) rfl (s_aload_n rfl) ?_
        refine pe_go (pc := 203) rfl (s_iconst (z := 1) rfl) ?_
        refine pe_go (pc := 204) rfl (s_iald (n := 3) (f := row3 (X.cx k) (X.cy k) (X.cz k)) (v := X.cy k) hr (k := 1) (by omega) (by omega) (by decide) rfl) ?_
        refine pe_go rfl (s_icmp_ne_f ⟨by omega, by omega⟩ ⟨by omega, by omega⟩ (by omega)) ?_
        refine pe_go (pc := 208) rfl (s_aload_n rfl) ?_
        refine pe_go (pc := 209) rfl (s_iload_n rfl) ?_
        refine pe_go (pc := 210) rfl (s_iconst (z := 3) rfl) ?_
        refine pe_call rfl (s_invV rfl (OB.obj hb hO) rfl rfl) (o_of3 hb hO hk sk) ?_
        refine pe_go (pc := 214) rfl (s_iload rfl) ?_
        refine pe_go rfl (s_icmp_ne_f ⟨by omega, by omega⟩ ⟨by omega, by omega⟩ (by omega)) ?_
        refine pe_go (pc := 219) rfl (s_aload_n rfl) ?_
        refine pe_go (pc := 220) rfl (s_iload_n rfl) ?_
        refine pe_go (pc := 221) rfl (s_iconst (z := 4) rfl) ?_
        refine pe_call rfl (s_invV rfl (OB.obj hb hO) rfl rfl) (o_of40 hb hO hk sk hb4) ?_
        refine pe_go (pc := 225) rfl (s_iload rfl) ?_
        refine pe_go rfl (s_if_eq_t ⟨by decide, by decide⟩ (by decide)) ?_
        refine pe_go (pc := 234) rfl (s_iconst (z := 0) rfl) ?_
        refine pe_go rfl (s_icmp_ne_f ⟨by decide, by decide⟩ ⟨by decide, by decide⟩ (by decide)) ?_
        refine pe_go (pc := 238) rfl (s_aload_n rfl) ?_
        refine pe_go (pc := 239) rfl (s_iload_n rfl) ?_
        refine pe_go (pc := 240) rfl (s_iconst (z := 5) rfl) ?_
        refine pe_call rfl (s_invV rfl (OB.obj hb hO) rfl rfl) (o_of5 hb hO hk sk) ?_
        refine pe_go (pc := 244) rfl (s_aload_n rfl) ?_
        refine pe_go (pc := 245) rfl (s_iconst (z := 2) rfl) ?_
        refine pe_go (pc := 246) rfl (s_iald (n := 3) (f := row3 (X.cx k) (X.cy k) (X.cz k)) (v := X.cz k) hr (k := 2) (by omega) (by omega) (by decide) rfl) ?_
        refine pe_go rfl (s_icmp_ne_f ⟨by omega, by omega⟩ ⟨by omega, by omega⟩ (by omega)) ?_
        refine pe_go (pc := 250) rfl (s_aload_n rfl) ?_
        refine pe_go (pc := 251) rfl (s_iload_n rfl) ?_
        refine pe_go (pc := 252) rfl (s_bipush (z := 6) rfl) ?_
        refine pe_call rfl (s_invV rfl (OB.obj hb hO) rfl rfl) (o_of6 hb hO hk sk) ?_
        refine pe_go (pc := 257) rfl (s_iconst (z := -1) rfl) ?_
        refine pe_go rfl (s_icmp_ne_f ⟨by decide, by decide⟩ ⟨by decide, by decide⟩ (by decide)) ?_
        refine pe_go (pc := 261) rfl (s_aload_n rfl) ?_
        refine pe_go (pc := 262) rfl (s_aload_n rfl) ?_
        refine pe_go (pc := 263) rfl (s_iconst (z := 0) rfl) ?_
        refine pe_go (pc := 264) rfl (s_iald (n := 3) (f := row3 (X.cx k) (X.cy k) (X.cz k)) (v := X.cx k) hr (k := 0) (by omega) (by omega) (by decide) rfl) ?_
        refine pe_go (pc := 265) rfl (s_aload_n rfl) ?_
        refine pe_go (pc := 266) rfl (s_iconst (z := 1) rfl) ?_
        refine pe_go (pc := 267) rfl (s_iald (n := 3) (f := row3 (X.cx k) (X.cy k) (X.cz k)) (v := X.cy k) hr (k := 1) (by omega) (by omega) (by decide) rfl) ?_
        refine pe_call rfl (s_invV rfl (OB.obj hb hO) rfl rfl) (o_at hb hO (x := X.cx k) (y := X.cy k) ⟨by omega, by omega⟩ ⟨by omega, by omega⟩) ?_
        refine pe_go (pc := 271) rfl (s_iload_n rfl) ?_
        refine pe_go rfl (s_icmp_eq_t ⟨by omega, by omega⟩ ⟨by omega, by omega⟩ (by omega)) ?_
        refine pe_go (pc := 277) rfl (s_iinc (x := (k : Int)) (y := ((k + 1 : Nat) : Int)) rfl (by omega) (lv' := [(2, .int (iI ((k + 1 : Nat) : Int))), (5, .int (iI 0)), (4, .int (iI (bcnt (S.fx k) : Int))), (3, .ref r), (0, .ref b), (1, .ref a)]) rfl) ?_
        refine pe_go (pc := 280) rfl s_goto ?_
        refine pe_few (lv := [(2, .int (iI ((k + 1 : Nat) : Int))), (0, .ref b), (1, .ref a)]) rfl rfl (by intro q hq; simp only [List.mem_cons, List.not_mem_nil, or_false] at hq; rcases hq with rfl | rfl | rfl <;> rfl) ?_
        exact ih (k + 1) (by omega)
    · have e1 := h2 k hk (Rel.no hR hk sk)
      refine pe_go (pc := 2) rfl (s_iload_n rfl) ?_
      refine pe_go (pc := 3) rfl (s_bipush (z := 41) rfl) ?_
      refine pe_go rfl (s_icmp_ge_f ⟨by omega, by omega⟩ ⟨by decide, by decide⟩ (by omega)) ?_
      refine pe_go (pc := 8) rfl (s_iload_n rfl) ?_
      refine pe_go rfl (s_if_lt_f ⟨by omega, by omega⟩ (by omega)) ?_
      refine pe_go (pc := 12) rfl (s_iload_n rfl) ?_
      refine pe_go (pc := 13) rfl (s_bipush (z := 39) rfl) ?_
      refine pe_go rfl (s_icmp_le_t ⟨by omega, by omega⟩ ⟨by decide, by decide⟩ (by omega)) ?_
      refine pe_go (pc := 22) rfl (s_aload_n rfl) ?_
      refine pe_go (pc := 23) rfl (s_getf (v := .ref pa) h0 rfl) ?_
      refine pe_go (pc := 26) rfl (s_iload_n rfl) ?_
      refine pe_go (pc := 27) rfl (s_aaldN h1 (k := k) (by omega) (by omega) e1) ?_
      refine pe_go (pc := 28) rfl (s_astore_nN (lv' := [(3, .null), (2, .int (iI (k : Int))), (0, .ref b), (1, .ref a)]) rfl) ?_
      refine pe_go (pc := 29) rfl (s_iconst (z := 0) rfl) ?_
      refine pe_go (pc := 30) rfl (s_istore (lv' := [(4, .int (iI 0)), (3, .null), (2, .int (iI (k : Int))), (0, .ref b), (1, .ref a)]) rfl) ?_
      refine pe_go (pc := 32) rfl (s_iconst (z := 0) rfl) ?_
      refine pe_go (pc := 33) rfl (s_istore (lv' := [(5, .int (iI 0)), (4, .int (iI 0)), (3, .null), (2, .int (iI (k : Int))), (0, .ref b), (1, .ref a)]) rfl) ?_
      refine pe_go (pc := 35) rfl (s_aload_nN rfl) ?_
      refine pe_go (pc := 36) rfl s_ifnull_t ?_
      refine pe_go (pc := 74) rfl (s_aload_nN rfl) ?_
      refine pe_go (pc := 75) rfl s_ifnonnull_f ?_
      refine pe_go (pc := 78) rfl (s_aload_n rfl) ?_
      refine pe_go (pc := 79) rfl (s_iload_n rfl) ?_
      refine pe_go (pc := 80) rfl (s_iconst (z := 0) rfl) ?_
      refine pe_call rfl (s_invV rfl (OB.obj hb hO) rfl rfl) (o_ofN0 hb hO (z := (k : Int)) ⟨by omega, by omega⟩ (Or.inr (Or.inr ⟨k, hk, rfl, sk⟩))) ?_
      refine pe_go (pc := 84) rfl (s_ldc (z := -100000) rfl) ?_
      refine pe_go rfl (s_icmp_ne_f ⟨by decide, by decide⟩ ⟨by decide, by decide⟩ (by decide)) ?_
      refine pe_go (pc := 89) rfl (s_aload_n rfl) ?_
      refine pe_go (pc := 90) rfl (s_iload_n rfl) ?_
      refine pe_go (pc := 91) rfl (s_iconst (z := 1) rfl) ?_
      refine pe_call rfl (s_invV rfl (OB.obj hb hO) rfl rfl) (o_ofN1 hb hO (z := (k : Int)) ⟨by omega, by omega⟩ (Or.inr (Or.inr ⟨k, hk, rfl, sk⟩))) ?_
      refine pe_go (pc := 95) rfl (s_ldc (z := -100000) rfl) ?_
      refine pe_go rfl (s_icmp_ne_f ⟨by decide, by decide⟩ ⟨by decide, by decide⟩ (by decide)) ?_
      refine pe_go (pc := 100) rfl (s_aload_n rfl) ?_
      refine pe_go (pc := 101) rfl (s_iload_n rfl) ?_
      refine pe_go (pc := 102) rfl (s_iconst (z := 2) rfl) ?_
      refine pe_call rfl (s_invV rfl (OB.obj hb hO) rfl rfl) (o_ofN2 hb hO (z := (k : Int)) ⟨by omega, by omega⟩ (Or.inr (Or.inr ⟨k, hk, rfl, sk⟩))) ?_
      refine pe_go (pc := 106) rfl (s_iconst (z := -1) rfl) ?_
      refine pe_go rfl (s_icmp_ne_f ⟨by decide, by decide⟩ ⟨by decide, by decide⟩ (by decide)) ?_
      refine pe_go (pc := 110) rfl (s_aload_n rfl) ?_
      refine pe_go (pc := 111) rfl (s_iload_n rfl) ?_
      refine pe_go (pc := 112) rfl (s_iconst (z := 3) rfl) ?_
      refine pe_call rfl (s_invV rfl (OB.obj hb hO) rfl rfl) (o_ofN3 hb hO (z := (k : Int)) ⟨by omega, by omega⟩ (Or.inr (Or.inr ⟨k, hk, rfl, sk⟩))) ?_
      refine pe_go (pc := 116) rfl (s_iconst (z := -1) rfl) ?_
      refine pe_go rfl (s_icmp_ne_f ⟨by decide, by decide⟩ ⟨by decide, by decide⟩ (by decide)) ?_
      refine pe_go (pc := 120) rfl (s_aload_n rfl) ?_
      refine pe_go (pc := 121) rfl (s_iload_n rfl) ?_
      refine pe_go (pc := 122) rfl (s_iconst (z := 4) rfl) ?_
      refine pe_call rfl (s_invV rfl (OB.obj hb hO) rfl rfl) (o_ofN4 hb hO (z := (k : Int)) ⟨by omega, by omega⟩ (Or.inr (Or.inr ⟨k, hk, rfl, sk⟩))) ?_
      refine pe_go (pc := 126) rfl (s_iconst (z := -1) rfl) ?_
      refine pe_go rfl (s_icmp_ne_f ⟨by decide, by decide⟩ ⟨by decide, by decide⟩ (by decide)) ?_
      refine pe_go (pc := 130) rfl (s_aload_n rfl) ?_
      refine pe_go (pc := 131) rfl (s_iload_n rfl) ?_
      refine pe_go (pc := 132) rfl (s_iconst (z := 5) rfl) ?_
      refine pe_call rfl (s_invV rfl (OB.obj hb hO) rfl rfl) (o_ofN5 hb hO (z := (k : Int)) ⟨by omega, by omega⟩ (Or.inr (Or.inr ⟨k, hk, rfl, sk⟩))) ?_
      refine pe_go (pc := 136) rfl (s_ldc (z := -100000) rfl) ?_
      refine pe_go rfl (s_icmp_ne_f ⟨by decide, by decide⟩ ⟨by decide, by decide⟩ (by decide)) ?_
      refine pe_go (pc := 141) rfl (s_aload_n rfl) ?_
      refine pe_go (pc := 142) rfl (s_iload_n rfl) ?_
      refine pe_go (pc := 143) rfl (s_iconst (z := 0) rfl) ?_
      refine pe_call rfl (s_invV rfl (OB.obj hb hO) rfl rfl) (o_starN hb hO (z := (k : Int)) (y := 0) ⟨by omega, by omega⟩ (Or.inr (Or.inr ⟨k, hk, rfl, sk⟩))) ?_
      refine pe_go (pc := 147) rfl (s_iconst (z := -1) rfl) ?_
      refine pe_go rfl (s_icmp_eq_t ⟨by decide, by decide⟩ ⟨by decide, by decide⟩ (by decide)) ?_
      refine pe_go (pc := 277) rfl (s_iinc (x := (k : Int)) (y := ((k + 1 : Nat) : Int)) rfl (by omega) (lv' := [(2, .int (iI ((k + 1 : Nat) : Int))), (5, .int (iI 0)), (4, .int (iI 0)), (3, .null), (0, .ref b), (1, .ref a)]) rfl) ?_
      refine pe_go (pc := 280) rfl s_goto ?_
      refine pe_few (lv := [(2, .int (iI ((k + 1 : Nat) : Int))), (0, .ref b), (1, .ref a)]) rfl rfl (by intro q hq; simp only [List.mem_cons, List.not_mem_nil, or_false] at hq; rcases hq with rfl | rfl | rfl <;> rfl) ?_
      exact ih (k + 1) (by omega)
theorem l_same0 {w : pW} {pre post : pW} {b : Nat} (hb : pre.length = b) {S : St} {L M : List St} {K : St} (hO : OB pre post b S L M K w) {O Q : Nat → Prop} {a : Nat} {X : Sh} {pa fa ha : Nat} {pf gf hf : Nat → Option Nat} {ff : Nat → Nat} (hS : shP w O Q a X pa fa ha pf gf hf ff) (hR : Rel S X) {Φ : Option Value → pW → Prop} (KK : qE 154 (283, [(2, .int (iI 41)), (0, .ref b), (1, .ref a)], [], w) Φ) : qC 154 [.ref b, .ref a] w Φ := by
  refine pc_run (lv := [(0, .ref b), (1, .ref a)]) rfl ?_
  refine pe_go (pc := 0) rfl (s_iconst (z := -1) rfl) ?_
  refine pe_go (pc := 1) rfl (s_istore_n (lv' := [(2, .int (iI (-1))), (0, .ref b), (1, .ref a)]) rfl) ?_
  refine pe_go (pc := 2) rfl (s_iload_n rfl) ?_
  refine pe_go (pc := 3) rfl (s_bipush (z := 41) rfl) ?_
  refine pe_go rfl (s_icmp_ge_f ⟨by decide, by decide⟩ ⟨by decide, by decide⟩ (by decide)) ?_
  refine pe_go (pc := 8) rfl (s_iload_n rfl) ?_
  refine pe_go rfl (s_if_lt_t ⟨by decide, by decide⟩ (by decide)) ?_
  refine pe_go (pc := 18) rfl s_null ?_
  refine pe_go (pc := 19) rfl s_goto ?_
  refine pe_go (pc := 28) rfl (s_astore_nN (lv' := [(3, .null), (2, .int (iI (-1))), (0, .ref b), (1, .ref a)]) rfl) ?_
  refine pe_go (pc := 29) rfl (s_iconst (z := 0) rfl) ?_
  refine pe_go (pc := 30) rfl (s_istore (lv' := [(4, .int (iI 0)), (3, .null), (2, .int (iI (-1))), (0, .ref b), (1, .ref a)]) rfl) ?_
  refine pe_go (pc := 32) rfl (s_iconst (z := 0) rfl) ?_
  refine pe_go (pc := 33) rfl (s_istore (lv' := [(5, .int (iI 0)), (4, .int (iI 0)), (3, .null), (2, .int (iI (-1))), (0, .ref b), (1, .ref a)]) rfl) ?_
  refine pe_go (pc := 35) rfl (s_aload_nN rfl) ?_
  refine pe_go (pc := 36) rfl s_ifnull_t ?_
  refine pe_go (pc := 74) rfl (s_aload_nN rfl) ?_
  refine pe_go (pc := 75) rfl s_ifnonnull_f ?_
  refine pe_go (pc := 78) rfl (s_aload_n rfl) ?_
  refine pe_go (pc := 79) rfl (s_iload_n rfl) ?_
  refine pe_go (pc := 80) rfl (s_iconst (z := 0) rfl) ?_
  refine pe_call rfl (s_invV rfl (OB.obj hb hO) rfl rfl) (o_ofN0 hb hO (z := (-1)) ⟨by decide, by decide⟩ (Or.inl (by decide))) ?_
  refine pe_go (pc := 84) rfl (s_ldc (z := -100000) rfl) ?_
  refine pe_go rfl (s_icmp_ne_f ⟨by decide, by decide⟩ ⟨by decide, by decide⟩ (by decide)) ?_
  refine pe_go (pc := 89) rfl (s_aload_n rfl) ?_
  refine pe_go (pc := 90) rfl (s_iload_n rfl) ?_
  refine pe_go (pc := 91) rfl (s_iconst (z := 1) rfl) ?_
  refine pe_call rfl (s_invV rfl (OB.obj hb hO) rfl rfl) (o_ofN1 hb hO (z := (-1)) ⟨by decide, by decide⟩ (Or.inl (by decide))) ?_
  refine pe_go (pc := 95) rfl (s_ldc (z := -100000) rfl) ?_
  refine pe_go rfl (s_icmp_ne_f ⟨by decide, by decide⟩ ⟨by decide, by decide⟩ (by decide)) ?_
  refine pe_go (pc := 100) rfl (s_aload_n rfl) ?_
  refine pe_go (pc := 101) rfl (s_iload_n rfl) ?_
  refine pe_go (pc := 102) rfl (s_iconst (z := 2) rfl) ?_
  refine pe_call rfl (s_invV rfl (OB.obj hb hO) rfl rfl) (o_ofN2 hb hO (z := (-1)) ⟨by decide, by decide⟩ (Or.inl (by decide))) ?_
  refine pe_go (pc := 106) rfl (s_iconst (z := -1) rfl) ?_
  refine pe_go rfl (s_icmp_ne_f ⟨by decide, by decide⟩ ⟨by decide, by decide⟩ (by decide)) ?_
  refine pe_go (pc := 110) rfl (s_aload_n rfl) ?_
  refine pe_go (pc := 111) rfl (s_iload_n rfl) ?_
  refine pe_go (pc := 112) rfl (s_iconst (z := 3) rfl) ?_
  refine pe_call rfl (s_invV rfl (OB.obj hb hO) rfl rfl) (o_ofN3 hb hO (z := (-1)) ⟨by decide, by decide⟩ (Or.inl (by decide))) ?_
  refine pe_go (pc := 116) rfl (s_iconst (z := -1) rfl) ?_
  refine pe_go rfl (s_icmp_ne_f ⟨by decide, by decide⟩ ⟨by decide, by decide⟩ (by decide)) ?_
  refine pe_go (pc := 120) rfl (s_aload_n rfl) ?_
  refine pe_go (pc := 121) rfl (s_iload_n rfl) ?_
  refine pe_go (pc := 122) rfl (s_iconst (z := 4) rfl) ?_
  refine pe_call rfl (s_invV rfl (OB.obj hb hO) rfl rfl) (o_ofN4 hb hO (z := (-1)) ⟨by decide, by decide⟩ (Or.inl (by decide))) ?_
  refine pe_go (pc := 126) rfl (s_iconst (z := -1) rfl) ?_
  refine pe_go rfl (s_icmp_ne_f ⟨by decide, by decide⟩ ⟨by decide, by decide⟩ (by decide)) ?_
  refine pe_go (pc := 130) rfl (s_aload_n rfl) ?_
  refine pe_go (pc := 131) rfl (s_iload_n rfl) ?_
  refine pe_go (pc := 132) rfl (s_iconst (z := 5) rfl) ?_
  refine pe_call rfl (s_invV rfl (OB.obj hb hO) rfl rfl) (o_ofN5 hb hO (z := (-1)) ⟨by decide, by decide⟩ (Or.inl (by decide))) ?_
  refine pe_go (pc := 136) rfl (s_ldc (z := -100000) rfl) ?_
  refine pe_go rfl (s_icmp_ne_f ⟨by decide, by decide⟩ ⟨by decide, by decide⟩ (by decide)) ?_
  refine pe_go (pc := 141) rfl (s_aload_n rfl) ?_
  refine pe_go (pc := 142) rfl (s_iload_n rfl) ?_
  refine pe_go (pc := 143) rfl (s_iconst (z := 0) rfl) ?_
  refine pe_call rfl (s_invV rfl (OB.obj hb hO) rfl rfl) (o_starN hb hO (z := (-1)) (y := 0) ⟨by decide, by decide⟩ (Or.inl (by decide))) ?_
  refine pe_go (pc := 147) rfl (s_iconst (z := -1) rfl) ?_
  refine pe_go rfl (s_icmp_eq_t ⟨by decide, by decide⟩ ⟨by decide, by decide⟩ (by decide)) ?_
  refine pe_go (pc := 277) rfl (s_iinc (x := -1) (y := 0) rfl (by omega) (lv' := [(2, .int (iI 0)), (5, .int (iI 0)), (4, .int (iI 0)), (3, .null), (0, .ref b), (1, .ref a)]) rfl) ?_
  refine pe_go (pc := 280) rfl s_goto ?_
  refine pe_few (lv := [(2, .int (iI ((0 : Nat) : Int))), (0, .ref b), (1, .ref a)]) rfl rfl (by intro q hq; simp only [List.mem_cons, List.not_mem_nil, or_false] at hq; rcases hq with rfl | rfl | rfl <;> rfl) ?_
  exact l_same hb hO hS hR KK 40 0 (by omega)
