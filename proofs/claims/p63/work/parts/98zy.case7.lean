/-! THE LAW: one turn: smoothed, whole. Rows laid by program (wip/p63/wk.py, hw.py, lawcase.py, mk98zy.py). -/
theorem t_same {w : pW} {b : Nat} {S : St} (h : tb w b S) {O Q : Nat → Prop} {a : Nat} {X : Sh} (hS : shAt w O Q a X) (hR : Rel S X) (hDO : ∀ i : Nat, inO b i → ¬ O i ∧ ¬ Q i) : qC 154 [.ref b, .ref a] w (fun r w' => r = some (.int (bI true)) ∧ tb w' b S ∧ agr (inO b) w w' ∧ gro 757 3835 w w') := by
  obtain ⟨L, M, K, h⟩ := h
  refine qc_mono (k_same h hS hR hDO) (fun r w' z => ?_)
  exact ⟨z.1, ⟨L, M, K, z.2.1⟩, z.2.2⟩
theorem Sh.In_none {X : Sh} (h : X.In) {p : Nat} (hz : ∀ q : Nat, q < 40 → X.2.1 p q = 0 ∧ X.2.1 q p = 0) : (X.uP p none).In := by
  obtain ⟨h1, h2, h3, h4⟩ := h
  refine ⟨fun k x y z hk e => ?_, h2, fun i j hi hj hn => ?_, h4⟩
  · by_cases c : k = p
    · rw [c, Sh.uP_at] at e; cases e
    · rw [Sh.uP_ne X _ c] at e
      exact h1 k x y z hk e
  · have hn : X.2.1 i j ≠ 0 := hn
    have ni : i ≠ p := fun e => hn (by rw [e]; exact (hz j hj).1)
    have nj : j ≠ p := fun e => hn (by rw [e]; exact (hz i hi).2)
    rw [Sh.uP_ne X _ ni, Sh.uP_ne X _ nj]
    exact h3 i j hi hj hn
def rw5 (w0 : pW) (n0 n1 n2 z2 b c t : Nat) (S : St) (L M : List St) (K : St) (k : Nat) (w : pW) (T : St) (X : Sh) : Prop :=
  obk w b S L M K ∧ tb w t T ∧ shAt w (fun i => n0 ≤ i ∧ i < n1) (fun i => (¬ inO b i ∧ i < n1) ∨ n2 ≤ i) c X ∧ Rel T X ∧ agr (fun i => n0 ≤ i) w0 w ∧ (n2 ≤ w.length ∧ w.length ≤ n2 + k ∧ pwsz w ≤ z2 + 3 * k)
theorem l_smMain {w0 : pW} {n0 n1 n2 z2 b c t k n ws aw s : Nat} {S : St} {L M : List St} {K : St} (hbn : b + 57 ≤ n0) (h01 : n0 ≤ n1) (h1t : n1 ≤ t) (ht2 : t + 57 ≤ n2) {T0 : St} {Φ : Option Value → pW → Prop}
    (KK : ∀ (w : pW) (T : St) (X : Sh) (c9 : Nat), c9 ≤ 40 → smR 36 4 T0 0 T c9 → rw5 w0 n0 n1 n2 z2 b c t S L M K 40 w T X → qE 158 (1175, [(18, .int (iI (c9 : Int))), (17, .ref t), (9, .int (iI 1)), (8, .ref c), (5, .int (iI (k : Int))), (4, .int (iI (n : Int))), (3, .ref ws), (2, .ref aw), (1, .ref b), (0, .ref s)], [], w) Φ) :
    ∀ (d i c9 : Nat) (w : pW) (T : St) (X : Sh), i + d = 40 → 4 ≤ i → c9 ≤ i → (∀ (Tf : St) (cf : Nat), smR d i T c9 Tf cf → smR 36 4 T0 0 Tf cf) → rw5 w0 n0 n1 n2 z2 b c t S L M K i w T X → qE 158 (972, [(19, .int (iI (i : Int))), (18, .int (iI (c9 : Int))), (17, .ref t), (9, .int (iI 1)), (8, .ref c), (5, .int (iI (k : Int))), (4, .int (iI (n : Int))), (3, .ref ws), (2, .ref aw), (1, .ref b), (0, .ref s)], [], w) Φ := by
  intro d
  induction d with
  | zero =>
    intro i c9 w T X hi h4 hc hcont hw
    have ei : i = 40 := by omega
    subst ei
    exact l_sm972x (KK w T X c9 hc (hcont T c9 ⟨rfl, rfl⟩) hw)
  | succ d ih =>
    intro i c9 w T X hi9 h4 hc hcont hw
    obtain ⟨ho, ht, hS, hR, hA, hl1, hl2, hz⟩ := hw
    have hTo := tb_ok ht
    have hi : i < 40 := by omega
    obtain ⟨pa, fa, ha, pf, gf, hf, ff, hP⟩ := id hS
    by_cases hl : T.loose i
    · refine l_sm972y ht hP hR hi hl ?_
      refine l_smJ ht hP hR hi hl ?_ 40 0 0 0 0 (by omega) rfl rfl rfl
      by_cases hat : X.at (T.smX i) (T.smY i) < 0
      · refine l_sm1065y ht hP hR hi hl hat ?_
        refine pe_go (pc := 1110) rfl (s_aastN (kd := 0) (k := i) hP.2.2.1 rfl ⟨hi, by decide, by decide⟩ rfl) ?_
        have hA9 : agr (fun j => j = pa) w (w.set pa (.inl (3, 40, rfs (va_up pf i none)))) := agr_set rfl
        have hG9 := gro_set (c' := .inl (3, 40, rfs (va_up pf i none))) hP.2.2.1 rfl
        have hP9 := sh_no hP i
        have hpa := hP.1.2.1
        have hlw : (w.set pa (.inl (3, 40, rfs (va_up pf i none)))).length = w.length := List.length_set ..
        generalize w.set pa (.inl (3, 40, rfs (va_up pf i none))) = w9 at hA9 hG9 hP9 hlw ⊢
        have ht9 : tb w9 t T := tb_agr ht hA9 (fun j e q => by have e : j = pa := e; have := q.1; have := hpa.2; omega)
        have ho9 : obk w9 b S L M K := obk_agr ho hA9 (fun j e q => by have e : j = pa := e; have := q.2; have := hpa.1; omega)
        have hz0 : ∀ q : Nat, q < 40 → X.2.1 i q = 0 ∧ X.2.1 q i = 0 := fun q hq => by
          rw [hR.2.2.1 i q hi hq, hR.2.2.1 q i hq hi]
          have hb := St.loose_b hl q hq
          exact ⟨St.how_0.mpr hb, St.how_0.mpr (fun z => hb ((hTo.bound_sym hq hi).mp z))⟩
        refine l_sm1111 ht9 hi hl (X := X) rfl ⟨_, _, _, _, _, _, _, hP9⟩ (Sh.In_none (hR.In hTo) hz0) (fun j q1 q2 => by have := q1.2; have := q2.1; omega) (fun j q1 q2 => by have := q1.1; have := q1.2; rcases q2 with q2 | q2 <;> omega) (Or.inr (by omega)) (hR.atm hat) (fun w8 R T1 oR hx hr hla hrt ht8 hs8 hA8 hG8 => ?_)
        refine ih (i + 1) (c9 + 1) w8 T1 _ (by omega) (by omega) (by omega) (fun Tf cf hh => hcont Tf cf ⟨T1, c9 + 1, tb_ok ht8, Or.inl ⟨hl, hR.atm hat, ⟨R, oR, hx, hr, hla, hrt⟩, rfl⟩, hh⟩) ⟨?_, ht8, hs8, hR.moved hi oR hx hr hla hrt, ?_, ?_⟩
        · exact obk_agr ho9 hA8 (fun j q1 q2 => by have := q2.2; rcases q1 with q1 | q1 <;> (have := q1.1; omega))
        · refine agr_trans hA (agr_trans (agr_mono hA9 (Q := fun i => n0 ≤ i) (fun j e => by have e : j = pa := e; have := hpa.1; show n0 ≤ j; omega)) (agr_mono hA8 (Q := fun i => n0 ≤ i) (fun j q => by
            rcases q with q | q
            · exact q.1
            · have := q.1; show n0 ≤ j; omega)) (fun _ z => z)) (fun _ z => z)
        · have g1 := hG9.1
          have g2 := hG9.2
          have g3 := hG8.1
          have g4 := hG8.2
          have g5 := hA8.1
          exact ⟨by omega, by omega, by omega⟩
      · refine l_sm1065n ht hP hR hi hl hat ?_
        exact ih (i + 1) c9 w T X (by omega) (by omega) (by omega) (fun Tf cf hh => hcont Tf cf ⟨T, c9, hTo, Or.inr ⟨fun z => hR.atn hat z.2, ⟨rfl, rfl, rfl, rfl, rfl, rfl, rfl, rfl, rfl⟩, rfl⟩, hh⟩) ⟨ho, ht, hS, hR, hA, hl1, by omega, by omega⟩
    · refine l_sm972n ht hP hR hi hl ?_
      exact ih (i + 1) c9 w T X (by omega) (by omega) (by omega) (fun Tf cf hh => hcont Tf cf ⟨T, c9, hTo, Or.inr ⟨fun z => hl z.1, ⟨rfl, rfl, rfl, rfl, rfl, rfl, rfl, rfl, rfl⟩, rfl⟩, hh⟩) ⟨ho, ht, hS, hR, hA, hl1, by omega, by omega⟩
theorem l_case9 {w : pW} {b n0 : Nat} (hbn : b + 57 ≤ n0) {S : St} {L M : List St} {K : St} (hk : obk w b S L M K) {c : Nat} {X : Sh} (hu : shAt w (fun i => n0 ≤ i) (fun i => ¬ inO b i) c X) (hR : Rel S X) (hlw : n0 ≤ w.length) {k n ws aw s : Nat} {x y px py grid what : Int} {Φ : Option Value → pW → Prop} {p q inn : Int} (KKd : ∀ (w' : pW) (S' : St) (X' : Sh), obk w' b S' (pshL S L) M K → Rel S' X' → shAt w' (fun i => n0 ≤ i) (fun i => ¬ inO b i) c X' → agr (fun i => inO b i ∨ n0 ≤ i) w w' → gro 2000 (2 * pwsz (nP 0) + 12000) w w' → qE 158 (1559, [(9, .int (iI 1)), (8, .ref c), (5, .int (iI (k : Int))), (4, .int (iI (n : Int))), (3, .ref ws), (2, .ref aw), (1, .ref b), (0, .ref s)], [], w') Φ) : qE 158 (942, [(16, .int (iI inn)), (15, .int (iI what)), (14, .int (iI q)), (13, .int (iI p)), (12, .int (iI py)), (11, .int (iI px)), (10, .int (iI grid)), (9, .int (iI 1)), (8, .ref c), (7, .int (iI y)), (6, .int (iI x)), (5, .int (iI (k : Int))), (4, .int (iI (n : Int))), (3, .ref ws), (2, .ref aw), (1, .ref b), (0, .ref s)], [], w) Φ := by
  have hko := obk_ok hk
  have hIn := hR.In hko
  have hX9 := hIn.1
  obtain ⟨fb, hbo⟩ := obk_obj hk
  obtain ⟨fc, hco⟩ := sh_obj hu
  have hfs := Sh.free_sm X
  refine pe_go (pc := 942) rfl (s_aload rfl) ?_
  refine pe_callE rfl (s_invS rfl rfl rfl) (w_beside hu hR hko) ?_
  rintro _ w1 ⟨t1, T1, ht01, rfl, ht1, hrt1, hp1, hg1⟩
  have hu2 := shAt_pfx hp1 (shAt_lt hu)
  refine pe_go (pc := 947) rfl (s_astore (lv' := [(17, .ref t1), (16, .int (iI inn)), (15, .int (iI what)), (14, .int (iI q)), (13, .int (iI p)), (12, .int (iI py)), (11, .int (iI px)), (10, .int (iI grid)), (9, .int (iI 1)), (8, .ref c), (7, .int (iI y)), (6, .int (iI x)), (5, .int (iI (k : Int))), (4, .int (iI (n : Int))), (3, .ref ws), (2, .ref aw), (1, .ref b), (0, .ref s)]) rfl) ?_
  refine pe_go (pc := 949) rfl (s_aload rfl) ?_
  refine pe_go (pc := 951) rfl s_ifnull_f ?_
  refine pe_go (pc := 954) rfl (s_aload rfl) ?_
  refine pe_go (pc := 956) rfl (s_aload rfl) ?_
  refine pe_callE rfl (s_invS rfl rfl rfl) (t_same ht1 hu2 hrt1 (fun i q => ⟨fun q2 => by have := q.1; have := q2.2; omega, fun q2 => by have := q.1; have := q2.2; omega⟩)) ?_
  rintro _ w2 ⟨rfl, ht2, hA2, hg2⟩
  refine pe_go rfl (s_ifne_true rfl) ?_
  refine pe_go (pc := 966) rfl (s_iconst (z := 0) rfl) ?_
  refine pe_go (pc := 967) rfl (s_istore (lv' := [(18, .int (iI 0)), (17, .ref t1), (16, .int (iI inn)), (15, .int (iI what)), (14, .int (iI q)), (13, .int (iI p)), (12, .int (iI py)), (11, .int (iI px)), (10, .int (iI grid)), (9, .int (iI 1)), (8, .ref c), (7, .int (iI y)), (6, .int (iI x)), (5, .int (iI (k : Int))), (4, .int (iI (n : Int))), (3, .ref ws), (2, .ref aw), (1, .ref b), (0, .ref s)]) rfl) ?_
  refine pe_go (pc := 969) rfl (s_iconst (z := 0) rfl) ?_
  refine pe_go (pc := 970) rfl (s_istore (lv' := [(19, .int (iI 0)), (18, .int (iI 0)), (17, .ref t1), (16, .int (iI inn)), (15, .int (iI what)), (14, .int (iI q)), (13, .int (iI p)), (12, .int (iI py)), (11, .int (iI px)), (10, .int (iI grid)), (9, .int (iI 1)), (8, .ref c), (7, .int (iI y)), (6, .int (iI x)), (5, .int (iI (k : Int))), (4, .int (iI (n : Int))), (3, .ref ws), (2, .ref aw), (1, .ref b), (0, .ref s)]) rfl) ?_
  refine pe_few (lv := [(19, .int (iI ((0 : Nat) : Int))), (18, .int (iI ((0 : Nat) : Int))), (17, .ref t1), (9, .int (iI 1)), (8, .ref c), (5, .int (iI (k : Int))), (4, .int (iI (n : Int))), (3, .ref ws), (2, .ref aw), (1, .ref b), (0, .ref s)]) rfl rfl (by intro q hq; simp only [List.mem_cons, List.not_mem_nil, or_false] at hq; rcases hq with rfl | rfl | rfl | rfl | rfl | rfl | rfl | rfl | rfl | rfl | rfl <;> rfl) ?_
  have hTo := tb_ok ht2
  have htl := tb_len ht1
  have hlp := pfx_len hp1
  have hls := hA2.1
  have hu3 := sh_agr hu2 hA2 (fun i q => ⟨fun q2 => by have := q.1; have := q2.2; omega, fun q2 => by have := q.1; have := q2.2; omega⟩)
  have hu4 : shAt w2 (fun i => n0 ≤ i ∧ i < w.length) (fun i => (¬ inO b i ∧ i < w.length) ∨ w2.length ≤ i) c X := sh_mono hu3 (fun i _ q => q) (fun i _ q => Or.inl q)
  have ho4 : obk w2 b S L M K := obk_agr (obk_agr hk (pfx_gro (P := fun _ => False) hp1) (fun i q => q.elim)) hA2 (fun i q q2 => by have := q.1; have := q2.2; omega)
  have hA4 : agr (fun i => n0 ≤ i) w w2 := P_trans (pfx_gro hp1) (agr_mono hA2 (fun i q => by have := q.1; show n0 ≤ i; omega))
  obtain ⟨pa, fa, ha, pf, gf, hf, ff, hP4⟩ := id hu4
  refine l_sm972n ht2 hP4 hrt1 (by decide) (hTo.corner_fast (by decide)) ?_
  refine l_sm972n ht2 hP4 hrt1 (by decide) (hTo.corner_fast (by decide)) ?_
  refine l_sm972n ht2 hP4 hrt1 (by decide) (hTo.corner_fast (by decide)) ?_
  refine l_sm972n ht2 hP4 hrt1 (by decide) (hTo.corner_fast (by decide)) ?_
  have gq1 := hg1.1
  have gq2 := hg1.2
  have gq3 := hg2.1
  have gq4 := hg2.2
  refine l_smMain (w0 := w) (n0 := n0) (n1 := w.length) (n2 := w2.length) (z2 := pwsz w2) hbn hlw ht01 (by omega) (T0 := T1) (S := S) (L := L) (M := M) (K := K) (fun w9 T9 X9 c9 hc9 hsm hw9 => ?_) 36 4 0 w2 T1 X (by decide) (by decide) (by decide) (fun Tf cf hh => hh) ⟨ho4, ht2, hu4, hrt1, hA4, Nat.le_refl _, by omega, by omega⟩
  obtain ⟨ho9, ht9, hs9, hr9, hA9, hq1, hq2, hq3⟩ := hw9
  refine l_sm1175 ho9 hc9 (fun S8 c8 hh => (smR_two 36 4 (by decide) hR hrt1 hko hTo hh hsm).1) (fun w8 S8 hh ho8 hc8 => ?_)
  have gq5 := hc8.2.1
  have gq6 := hc8.2.2
  refine KKd w8 S8 X9 ho8 ((smR_two 36 4 (by decide) hR hrt1 hko hTo hh hsm).2 X9 hr9) ?_ (P_trans (P_own hA9) (P_chg hc8)) ⟨by omega, by omega⟩
  have hs8 := sh_agr hs9 hc8.1 (fun i q => ⟨fun q2 => by have := q.2; have := q2.1; omega, fun q2 => q2.elim (fun q2 => q2.1 q) (fun q2 => by have := q.2; omega)⟩)
  exact sh_mono hs8 (fun i _ q => q.1) (fun i _ q => q.elim (fun q => q.1) (fun q z => by have := z.2; omega))
