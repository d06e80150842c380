/-! THE LAW: refines, whole. By hand. -/
theorem St.Ok.lq_b9 {T : St} (h : T.Ok) {t : Nat} (ht : t < 74) : 0 ≤ T.lq t ∧ T.lq t ≤ 8000000 := St.lq_b h.B h.I.CN.1 ht
theorem St.Ok.ar_b9 {T : St} (h : T.Ok) {t : Nat} (ht : t < 74) : -8000000 ≤ T.ar t ∧ T.ar t ≤ 8000000 := by
  unfold St.ar
  exact h.sdb (St.cn_lt h.I.CN.1 (by omega)) (St.cn_lt h.I.CN.1 (by omega)) (St.cn_lt h.I.CN.1 (by omega))
theorem l_rfB {w : pW} {b t : Nat} {k c many : Nat} {T : St} (ht : tb w t T) {O Q : Nat → Prop} {a : Nat} {X : Sh} {pa fa ha : Nat} {pf gf hf : Nat → Option Nat} {ff : Nat → Nat} (hS : shP w O Q a X pa fa ha pf gf hf ff) (hR : Rel T X) {N9 : Nat} (hN : T.tn = (N9 : Int)) (hN2 : N9 ≤ 74) {Bf : Nat} {Φ : Option Value → pW → Prop}
    (KK : qE 156 (225, [(11, .int (iI ((T.lgs Bf : Nat) : Int))), (6, .int (iI (Bf : Int))), (5, .int (iI (k : Int))), (4, .int (iI (c : Int))), (3, .ref t), (0, .ref b), (1, .ref a), (2, .int (iI (many : Int)))], [], w) Φ) :
    ∀ (n i B : Nat), i + n = N9 → 1 ≤ i → B < N9 → T.thF n i B = Bf → qE 156 (38, [(12, .int (iI (i : Int))), (11, .int (iI ((T.lgs B : Nat) : Int))), (9, .long (lI (T.lq B))), (7, .long (lI (T.ar B))), (6, .int (iI (B : Int))), (5, .int (iI (k : Int))), (4, .int (iI (c : Int))), (3, .ref t), (0, .ref b), (1, .ref a), (2, .int (iI (many : Int)))], [], w) Φ := by
  have hTo := tb_ok ht
  intro n
  induction n with
  | zero =>
    intro i B hi hi1 hB hth
    have ei : i = N9 := by omega
    subst ei
    have eb : B = Bf := hth
    subst eb
    exact l_rf38x ht hN hN2 KK
  | succ n ih =>
    intro i B hi hi1 hB hth
    obtain ⟨p0, p1, p2, k3⟩ := hTo.tri3 hN (show i < N9 by omega)
    refine l_rf38 ht hN hN2 (by omega) ?_
    refine l_rfE ht hS hR hN hN2 (by omega) k3 (fun q9 e9 hq he => ?_)
    subst hq he
    have b1 := hTo.ar_b9 (show i < 74 by omega)
    have b2 := hTo.ar_b9 (show B < 74 by omega)
    have b3 := hTo.lq_b9 (show i < 74 by omega)
    have b4 := hTo.lq_b9 (show B < 74 by omega)
    by_cases hc : T.ar i * T.lq B < T.ar B * T.lq i
    · rw [St.thF_y hc] at hth
      exact l_rfY (be := 0) (up := 0) (bst := 0) ht hN hN2 (by omega) b1 (by omega) b3 b4 b2 hc (ih (i + 1) i (by omega) (by omega) (by omega) hth)
    · rw [St.thF_n hc] at hth
      exact l_rfN (be := 0) (up := 0) (bst := 0) ht hN hN2 (by omega) b1 (by omega) b3 b4 b2 hc (ih (i + 1) B (by omega) (by omega) hB hth)
/-- an object and a sheet beside it, a mesh beside both -/
def rw4 (w0 : pW) (n0 n1 z1 : Nat) (O Q : Nat → Prop) (b a t : Nat) (S : St) (L M : List St) (K : St) (k : Nat) (w : pW) (T : St) (X : Sh) : Prop :=
  obk w b S L M K ∧ tb w t T ∧ shAt w (fun i => O i ∧ i < n0) (fun i => (Q i ∧ i < n0) ∨ n1 ≤ i) a X ∧ Rel T X ∧ agr (fun i => O i ∨ n0 ≤ i) w0 w ∧ (n1 ≤ w.length ∧ w.length ≤ n1 + k ∧ pwsz w ≤ z1 + 3 * k)
theorem l_rfMain {w0 : pW} {n0 n1 z1 : Nat} {O Q : Nat → Prop} {b a t : Nat} {S : St} {L M : List St} {K : St} (hbn : b + 57 ≤ n0) (htn : n0 ≤ t ∧ t + 57 ≤ n1) (hOb : ∀ i : Nat, inO b i → ¬ O i) {many : Nat} (hm : many ≤ 10) {T0 : St} {Φ : Option Value → pW → Prop}
    (KK : ∀ (w : pW) (T : St) (X : Sh) (c k : Nat), c ≤ many → k ≤ many → refR many T0 0 T c → rw4 w0 n0 n1 z1 O Q b a t S L M K many w T X → qE 156 (342, [(5, .int (iI (k : Int))), (4, .int (iI (c : Int))), (3, .ref t), (0, .ref b), (1, .ref a), (2, .int (iI (many : Int)))], [], w) Φ) :
    ∀ (d k c : Nat) (w : pW) (T : St) (X : Sh), k + d = many → c ≤ k → (∀ (Tf : St) (cf : Nat), refR d T c Tf cf → refR many T0 0 Tf cf) → rw4 w0 n0 n1 z1 O Q b a t S L M K k w T X → qE 156 (17, [(5, .int (iI (k : Int))), (4, .int (iI (c : Int))), (3, .ref t), (0, .ref b), (1, .ref a), (2, .int (iI (many : Int)))], [], w) Φ := by
  intro d
  induction d with
  | zero =>
    intro k c w T X hk hc hcont hw
    have ek : k = many := by omega
    subst ek
    exact l_rf17x (Nat.le_refl _) hm hm (KK w T X c k hc (Nat.le_refl _) (hcont T c ⟨rfl, rfl⟩) hw)
  | succ d ih =>
    intro k c w T X hk hc hcont hw
    obtain ⟨ho, ht, hS, hR, hA, hl1, hl2, hz⟩ := hw
    have hTo := tb_ok ht
    obtain ⟨N9, hN, hN2, hN0⟩ := hTo.T0
    obtain ⟨pa, fa, ha, pf, gf, hf, ff, hSP⟩ := id hS
    obtain ⟨p0, p1, p2, k3⟩ := hTo.tri3 hN hN0
    refine l_rf17 (by omega) hm ?_
    refine l_rf38 (i := 0) ht hN hN2 hN0 ?_
    refine l_rfE ht hSP hR hN hN2 hN0 k3 (fun q9 e9 hq he => ?_)
    subst hq he
    refine l_rf0 (bst := 0) ht hN hN2 hN0 (hTo.ar_b9 (by decide)) ?_
    refine l_rfB ht hSP hR hN hN2 (Bf := T.thF (N9 - 1) 1 0) ?_ (N9 - 1) 1 0 (by omega) (by decide) hN0 rfl
    refine l_rf225 ht hSP hR hN hN2 hN0 rfl rfl ?_
    obtain ⟨fs, hobj⟩ := sh_obj hS
    -- where
    have hbr : inSq T.rfX T.rfY := by
      have hself := eqv_of hR hR
      have eTn : T.tn.toNat = N9 := by rw [hN]; rfl
      have hBN : T.thF (N9 - 1) 1 0 < N9 := by rcases T.thF_lt (N9 - 1) 1 0 (by decide) with z | z <;> omega
      have cA : T.rfA < 40 := by unfold St.rfA; rw [eTn]; exact (eqv_cn hself hTo hTo hN hBN (T.lgs_lt _)).2.1
      have cB : T.rfB < 40 := by unfold St.rfB; rw [eTn]; exact (eqv_cn hself hTo hTo hN hBN (by omega)).2.1
      have bA := hTo.B _ cA
      have bB := hTo.B _ cB
      unfold St.rfX St.rfY
      refine ⟨by omega, by omega, by omega, by omega⟩
    have hsx : sm T.rfX := ⟨by have := hbr.1; omega, by have := hbr.2.1; omega⟩
    have hsy : sm T.rfY := ⟨by have := hbr.2.2.1; omega, by have := hbr.2.2.2; omega⟩
    have htk := hR.takes_iff (x := T.rfX) (y := T.rfY)
    refine pe_callE rfl (s_invV rfl hobj rfl rfl) (w_tells hbr (hR.In hTo) hS (Or.inr hl1)) ?_
    rintro _ w2 (⟨⟨f1, f2⟩, f9, hf9, hfr, rfl, hS2, hI2, hA2, hG2⟩ | ⟨hno, rfl, rfl⟩)
    · have ht2 : tb w2 t T := tb_agr ht hA2 (fun i q1 q2 => by have := q1.2; have := q2.1; omega)
      have ho2 : obk w2 b S L M K := obk_agr ho hA2 (fun i q1 q2 => hOb i q2 q1.1)
      have htT : T.takes T.rfX T.rfY := htk.mpr ⟨hbr, f1, f2⟩
      have hlu : T.lu = (f9 : Int) := hR.lu_free.trans hfr
      refine l_rf308y ht2 hsx hsy hf9 htT hlu (fun w3 R hla hrs ht3 hc3 => ?_)
      have hR3 := hR.tell hTo hlu hla hrs
      refine ih (k + 1) (c + 1) w3 R (X.lays f9 T.rfX T.rfY 0) (by omega) (by omega) (fun Tf cf hh => hcont Tf cf (Or.inl ⟨htT, R, tb_ok ht3, ⟨f9, hlu, hla, hrs⟩, hh⟩)) ⟨?_, ht3, ?_, hR3, ?_, ?_⟩
      · exact obk_agr ho2 hc3.1 (fun i q1 q2 => by have := q1.1; have := q2.2; omega)
      · exact sh_agr hS2 hc3.1 (fun i q1 => ⟨fun q2 => by have := q1.1; have := q2.2; omega, fun q2 => by have := q1.1; have := q1.2; rcases q2 with q2 | q2 <;> omega⟩)
      · exact agr_trans (agr_trans hA (agr_mono hA2 (Q := fun i => O i ∨ n0 ≤ i) (fun i q1 => Or.inl q1.1)) (fun _ q => q)) (agr_mono hc3.1 (Q := fun i => O i ∨ n0 ≤ i) (fun i q1 => Or.inr (by have := q1.1; omega))) (fun _ q => q)
      · have g1 := hG2.1
        have g2 := hG2.2
        have g3 := hc3.2.1
        have g4 := hc3.2.2
        have g5 := hA2.1
        exact ⟨by omega, by omega, by omega⟩
    · have htT : ¬ T.takes T.rfX T.rfY := fun z => hno (htk.mp z).2
      exact l_rf308n (KK w2 T X c k (by omega) (by omega) (hcont T c (Or.inr ⟨htT, rfl, rfl⟩)) ⟨ho, ht, hS, hR, hA, hl1, by omega, by omega⟩)
theorem w_refines {w0 : pW} {b : Nat} {S : St} {L M : List St} {K : St} (ho : obk w0 b S L M K) {O Q : Nat → Prop} {a : Nat} {X : Sh} (hS : shAt w0 O Q a X) (hR : Rel S X) (hQ : ∀ i : Nat, w0.length ≤ i → Q i) (hOb : ∀ i : Nat, inO b i → ¬ O i ∧ ¬ Q i) {many : Nat} (h1 : 1 ≤ many) (h2 : many ≤ 10) : qC 156 [.ref b, .ref a, .int (iI (many : Int))] w0 (fun r w' => ∃ (c : Nat) (S' : St) (X' : Sh), c ≤ 10 ∧ r = some (.int (iI (c : Int))) ∧ obk w' b S' (pshL S L) M K ∧ Rel S' X' ∧ shAt w' O Q a X' ∧ agr (fun i => O i ∨ inO b i) w0 w' ∧ gro (143 + many) (pwsz (nP 0) + 1848 + 3 * many) w0 w') := by
  have hSo := obk_ok ho
  have hlen := obk_len ho
  refine pc_run (lv := [(0, .ref b), (1, .ref a), (2, .int (iI (many : Int)))]) rfl ?_
  refine pe_go (pc := 0) rfl (s_aload_n rfl) ?_
  refine pe_callE rfl (s_invS rfl rfl rfl) (w_beside hS hR hSo) ?_
  rintro _ w1 ⟨t, T0, ht0, rfl, ht, hRT, hp, hG⟩
  refine pe_go (pc := 4) rfl (s_astore_n (lv' := [(3, .ref t), (0, .ref b), (1, .ref a), (2, .int (iI (many : Int)))]) rfl) ?_
  refine pe_go (pc := 5) rfl (s_aload_n rfl) ?_
  refine pe_go (pc := 6) rfl s_ifnonnull_t ?_
  refine pe_go (pc := 11) rfl (s_iconst (z := 0) rfl) ?_
  refine pe_go (pc := 12) rfl (s_istore (lv' := [(4, .int (iI ((0 : Nat) : Int))), (3, .ref t), (0, .ref b), (1, .ref a), (2, .int (iI (many : Int)))]) rfl) ?_
  refine pe_go (pc := 14) rfl (s_iconst (z := 0) rfl) ?_
  refine pe_go (pc := 15) rfl (s_istore (lv' := [(5, .int (iI ((0 : Nat) : Int))), (4, .int (iI ((0 : Nat) : Int))), (3, .ref t), (0, .ref b), (1, .ref a), (2, .int (iI (many : Int)))]) rfl) ?_
  have htl := tb_len ht
  have hS1 := shAt_pfx hp (shAt_lt hS)
  have hS1' : shAt w1 (fun i => O i ∧ i < w0.length) (fun i => (Q i ∧ i < w0.length) ∨ w1.length ≤ i) a X := sh_mono hS1 (fun i _ q => q) (fun i _ q => Or.inl q)
  have ho1 : obk w1 b S L M K := obk_agr ho (pfx_gro (P := fun _ => False) hp) (fun i q => q.elim)
  refine l_rfMain (w0 := w0) (n0 := w0.length) (n1 := w1.length) (z1 := pwsz w1) (O := O) (Q := Q) (S := S) (L := L) (M := M) (K := K) hlen ⟨ht0, htl⟩ (fun i q => (hOb i q).1) h2 (T0 := T0) (fun w T X' c k hc hk hrf hw => ?_) many 0 0 w1 T0 X (by omega) (Nat.le_refl _) (fun Tf cf hh => hh) ⟨ho1, ht, hS1', hRT, pfx_gro hp, Nat.le_refl _, by omega, by omega⟩
  obtain ⟨ho2, ht2, hS2, hR2, hA2, hl1, hl2, hz2⟩ := hw
  refine l_rf342 ho2 h1 h2 (by omega) (fun S' c' hh => (refR_two many hR hRT hSo (tb_ok ht) hh hrf).1) (fun w' S' hh ho3 hc3 => ?_)
  refine ⟨c, S', X', by omega, rfl, ho3, (refR_two many hR hRT hSo (tb_ok ht) hh hrf).2 X' hR2, ?_, ?_, ?_⟩
  · have hS3 := sh_agr hS2 hc3.1 (fun i q => ⟨fun q2 => (hOb i q).1 q2.1, fun q2 => by
      rcases q2 with q2 | q2
      · exact (hOb i q).2 q2.1
      · have := q.2; omega⟩)
    exact sh_mono hS3 (fun i _ q => q.1) (fun i _ q => by
      rcases q with q | q
      · exact q.1
      · exact hQ i (by have := pfx_len hp; omega))
  · refine ⟨by have := hA2.1; have := hc3.1.1; omega, fun i hi hn => ?_⟩
    rw [hc3.1.2 i (by have := hA2.1; omega) (fun q => hn (Or.inr q)), hA2.2 i hi (fun q => q.elim (fun q => hn (Or.inl q)) (fun q => absurd q (by omega)))]
  · have g1 := hG.1
    have g2 := hG.2
    have g3 := hc3.2.1
    have g4 := hc3.2.2
    exact ⟨by omega, by omega⟩
