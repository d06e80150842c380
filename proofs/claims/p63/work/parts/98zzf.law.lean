/-! THE LAW, whole. Rows laid by program (wip/p63/wk.py, hw.py, lawcase.py, mk98zzf.py). -/
theorem l_e38x {w : pW} {b n ws aw s : Nat} {Φ : Option Value → pW → Prop} (KK : qE 158 (1636, [(4, .int (iI (n : Int))), (3, .ref ws), (2, .ref aw), (1, .ref b), (0, .ref s)], [], w) Φ) : qE 158 (38, [(5, .int (iI ((44 : Nat) : Int))), (4, .int (iI (n : Int))), (3, .ref ws), (2, .ref aw), (1, .ref b), (0, .ref s)], [], w) Φ := by
  refine pe_go (pc := 38) rfl (s_iload rfl) ?_
  refine pe_go (pc := 40) rfl (s_bipush (z := 44) rfl) ?_
  refine pe_go rfl (s_icmp_ge_t ⟨by omega, by omega⟩ ⟨by decide, by decide⟩ (by decide)) ?_
  refine pe_few (lv := [(4, .int (iI (n : Int))), (3, .ref ws), (2, .ref aw), (1, .ref b), (0, .ref s)]) rfl rfl (by intro q hq; simp only [List.mem_cons, List.not_mem_nil, or_false] at hq; rcases hq with rfl | rfl | rfl | rfl | rfl <;> rfl) ?_
  exact KK
theorem l_e1636 {w : pW} {b n ws aw s : Nat} {Φ : Option Value → pW → Prop} {S : St} {L M : List St} {K : St} (hk : obk w b S L M K) (KK : ∀ w' : pW, obk w' b S L L S → chg b w w' → qE 158 (1642, [(5, .int (iI ((bcnt S.th : Nat) : Int))), (4, .int (iI (n : Int))), (3, .ref ws), (2, .ref aw), (1, .ref b), (0, .ref s)], [], w') Φ) : qE 158 (1636, [(4, .int (iI (n : Int))), (3, .ref ws), (2, .ref aw), (1, .ref b), (0, .ref s)], [], w) Φ := by
  obtain ⟨fb, hbo⟩ := obk_obj hk
  refine pe_go (pc := 1636) rfl (s_aload_n rfl) ?_
  refine pe_callE rfl (s_invV rfl hbo rfl rfl) (k_image hk) ?_
  rintro _ w1 ⟨rfl, ho1, hc1⟩
  refine pe_go (pc := 1640) rfl (s_istore (lv' := [(5, .int (iI ((bcnt S.th : Nat) : Int))), (4, .int (iI (n : Int))), (3, .ref ws), (2, .ref aw), (1, .ref b), (0, .ref s)]) rfl) ?_
  refine pe_few (lv := [(5, .int (iI ((bcnt S.th : Nat) : Int))), (4, .int (iI (n : Int))), (3, .ref ws), (2, .ref aw), (1, .ref b), (0, .ref s)]) rfl rfl (by intro q hq; simp only [List.mem_cons, List.not_mem_nil, or_false] at hq; rcases hq with rfl | rfl | rfl | rfl | rfl | rfl <;> rfl) ?_
  exact KK _ ho1 hc1
theorem l_e1642y {w : pW} {b m ws aw s : Nat} {pt : Int} {Φ : Option Value → pW → Prop} {S : St} {L : List St} {J : St} {M : List St} {K : St} (hk : obk w b S (L ++ [J]) M K) (hm : m = L.length) (hm2 : m < 40) {wf : Nat → Option Nat} {a2 : Nat} (hws : w[ws]? = some (.inl (5, 40, rfs wf))) (hwb : ¬ inO b ws) (hwf : wf m = some a2) {Xm : Sh} (hsm : shAt w (Nb b) (Nb b) a2 Xm) (hRm : Rel J Xm) (hJ : J.Ok) (KK : ∀ (w' : pW) (R : St), obk w' b R L M K → agr (inO b) w w' → gro 757 3835 w w' → qE 158 (1642, [(5, .int (iI pt)), (4, .int (iI (m : Int))), (3, .ref ws), (2, .ref aw), (1, .ref b), (0, .ref s)], [], w') Φ) : qE 158 (1642, [(5, .int (iI pt)), (4, .int (iI ((m + 1 : Nat) : Int))), (3, .ref ws), (2, .ref aw), (1, .ref b), (0, .ref s)], [], w) Φ := by
  obtain ⟨fb, hbo⟩ := obk_obj hk
  refine pe_go (pc := 1642) rfl (s_iload rfl) ?_
  refine pe_go rfl (s_if_le_f ⟨by omega, by omega⟩ (by omega)) ?_
  refine pe_go (pc := 1647) rfl (s_iinc (x := ((m + 1 : Nat) : Int)) (y := ((m + 1 : Nat) : Int) + (-1)) rfl (by omega) (lv' := [(4, .int (iI (((m + 1 : Nat) : Int) + (-1)))), (5, .int (iI pt)), (3, .ref ws), (2, .ref aw), (1, .ref b), (0, .ref s)]) rfl) ?_
  rw [show ((m + 1 : Nat) : Int) + -1 = (m : Int) by omega]
  refine pe_go (pc := 1650) rfl (s_aload_n rfl) ?_
  refine pe_callE rfl (s_invV rfl hbo rfl rfl) (k_undoY hk) ?_
  rintro _ w1 ⟨rfl, R1, hr1, ho1, hc1⟩
  have hws2 := cell_agr hc1.1 hws hwb
  have hsm2 := sh_agr hsm hc1.1 (fun i q => ⟨fun z => z q, fun z => z q⟩)
  rw [← hm]
  refine pe_go (pc := 1654) rfl (s_iload rfl) ?_
  refine pe_go rfl (s_icmp_ne_f ⟨by omega, by omega⟩ ⟨by omega, by omega⟩ (fun e => e rfl)) ?_
  refine pe_go (pc := 1659) rfl (s_aload_n rfl) ?_
  refine pe_go (pc := 1660) rfl (s_aload_n rfl) ?_
  refine pe_go (pc := 1661) rfl (s_iload rfl) ?_
  refine pe_go (pc := 1663) rfl (s_aald hws2 (k := m) (by omega) (by omega) hwf) ?_
  refine pe_callE rfl (s_invS rfl rfl rfl) (k_same ho1 hsm2 (hRm.alike hr1 hJ) (fun i q => ⟨fun z => z q, fun z => z q⟩)) ?_
  rintro _ w2 ⟨rfl, ho2, hA2, hg2⟩
  refine pe_go rfl (s_ifne_true rfl) ?_
  refine pe_few (lv := [(5, .int (iI pt)), (4, .int (iI (m : Int))), (3, .ref ws), (2, .ref aw), (1, .ref b), (0, .ref s)]) rfl rfl (by intro q hq; simp only [List.mem_cons, List.not_mem_nil, or_false] at hq; rcases hq with rfl | rfl | rfl | rfl | rfl | rfl <;> rfl) ?_
  exact KK _ _ ho2 (P_trans hc1.1 hA2) (gro_mono (gro_trans (g_chg hc1) hg2) (by decide) (by decide))
theorem l_e1642n {w : pW} {b ws aw s : Nat} {pt : Int} {Φ : Option Value → pW → Prop} {S : St} {M : List St} {K : St} (hk : obk w b S [] M K) {X : Sh} (hw : shAt w (Nb b) (Nb b) aw X) (hR : Rel K X) (hK : K.Ok) (hpt : pt = ((bcnt K.th : Nat) : Int)) (KK : ∀ w' : pW, gro 757 3835 w w' → Φ (some (.int (bI true))) w') : qE 158 (1642, [(5, .int (iI pt)), (4, .int (iI ((0 : Nat) : Int))), (3, .ref ws), (2, .ref aw), (1, .ref b), (0, .ref s)], [], w) Φ := by
  obtain ⟨fb, hbo⟩ := obk_obj hk
  subst hpt
  have hb64 := bcnt_le K.th
  refine pe_go (pc := 1642) rfl (s_iload rfl) ?_
  refine pe_go rfl (s_if_le_t ⟨by omega, by omega⟩ (by decide)) ?_
  refine pe_go (pc := 1672) rfl (s_aload_n rfl) ?_
  refine pe_callE rfl (s_invV rfl hbo rfl rfl) (k_undoN hk) ?_
  rintro _ w1 ⟨rfl, ho1, hc1⟩
  obtain ⟨fb2, hbo2⟩ := obk_obj ho1
  refine pe_go (pc := 1676) rfl (s_iconst (z := -1) rfl) ?_
  refine pe_go rfl (s_icmp_ne_f ⟨by decide, by decide⟩ ⟨by decide, by decide⟩ (by decide)) ?_
  refine pe_go (pc := 1680) rfl (s_aload_n rfl) ?_
  refine pe_callE rfl (s_invV rfl hbo2 rfl rfl) (k_back ho1) ?_
  rintro _ w2 ⟨R2, hr2, rfl, ho2, hc2⟩
  rw [hr2.2.1]
  obtain ⟨fb3, hbo3⟩ := obk_obj ho2
  refine pe_go (pc := 1684) rfl (s_iload rfl) ?_
  refine pe_go rfl (s_icmp_ne_f ⟨by omega, by omega⟩ ⟨by omega, by omega⟩ (fun e => e rfl)) ?_
  refine pe_go (pc := 1689) rfl (s_aload_n rfl) ?_
  refine pe_go (pc := 1690) rfl (s_aload_n rfl) ?_
  refine pe_callE rfl (s_invS rfl rfl rfl) (k_same ho2 (sh_agr (sh_agr hw hc1.1 (fun i q => ⟨fun z => z q, fun z => z q⟩)) hc2.1 (fun i q => ⟨fun z => z q, fun z => z q⟩)) (hR.alike hr2 hK) (fun i q => ⟨fun z => z q, fun z => z q⟩)) ?_
  rintro _ w3 ⟨rfl, ho3, hA3, hg3⟩
  refine pe_go rfl (s_ifeq_true rfl) ?_
  refine pe_go (pc := 1697) rfl (s_iconst (z := 1) rfl) ?_
  refine pe_go (pc := 1698) rfl s_goto ?_
  exact pe_ret rfl s_ret1 (KK _ (gro_mono (gro_trans (g_chg hc1) (gro_trans (g_chg hc2) hg3)) (by decide) (by decide)))
theorem l_lawEnd {b ws aw s : Nat} {pt : Int} {Φ : Option Value → pW → Prop} {M : List St} {K : St} {X : Sh} (hR : Rel K X) (hK : K.Ok) (hpt : pt = ((bcnt K.th : Nat) : Int)) {w0 : pW} (KK : ∀ w' : pW, gro (757 * 21) (3835 * 21) w0 w' → Φ (some (.int (bI true))) w') : ∀ (n : Nat) (L : List St) (w : pW) (S : St), L.length = n → n ≤ 20 → obk w b S L M K → shAt w (Nb b) (Nb b) aw X → wasI w b ws aw L → gro (757 * (20 - n)) (3835 * (20 - n)) w0 w → qE 158 (1642, [(5, .int (iI pt)), (4, .int (iI (n : Int))), (3, .ref ws), (2, .ref aw), (1, .ref b), (0, .ref s)], [], w) Φ := by
  intro n
  induction n with
  | zero =>
    intro L w S hn h20 hk hw hwas hG
    have eL : L = [] := List.eq_nil_of_length_eq_zero hn
    subst eL
    exact l_e1642n hk hw hR hK hpt (fun w' hg => KK w' (gro_mono (gro_trans hG hg) (by decide) (by decide)))
  | succ n ih =>
    intro L w S hn h20 hk hw hwas hG
    rcases List.eq_nil_or_concat L with rfl | ⟨L', J, eL⟩
    · cases hn
    · rw [List.concat_eq_append] at eL
      have hl : L.length = L'.length + 1 := by rw [eL, List.length_append]; rfl
      obtain ⟨hwsb, wf, hws, hwi, hwd⟩ := hwas
      obtain ⟨am, Xm, J', b1, b2, b3, b4, b5⟩ := hwi L'.length (by omega)
      have eJ : J' = J := by
        rw [eL, List.getElem?_append_right (Nat.le_refl _), Nat.sub_self] at b3
        exact (Option.some.inj b3).symm
      subst eJ
      have hJ : J'.Ok := by
        obtain ⟨pre, post, hb9, hO⟩ := hk
        exact hO.2.1 J' (by rw [eL]; exact List.mem_append_right _ (List.mem_singleton.mpr rfl))
      have en : n = L'.length := by omega
      subst en
      rw [eL] at hk
      refine l_e1642y hk rfl (by omega) hws hwsb b1 b4 b5 hJ (fun w' R ho hA hg => ?_)
      have hA' : agr (fun i => inO b i ∨ w.length ≤ i) w w' := agr_mono hA (fun _ z => Or.inl z)
      refine ih L' w' R rfl (by omega) ho (sh_keepN hw hA') ⟨hwsb, wf, cell_keepN hws hwsb hA', fun i hi => ?_, fun i j ai hij hj e1 e2 => hwd i j ai hij (by omega) e1 e2⟩ (gro_mono (gro_trans hG hg) (by omega) (by omega))
      obtain ⟨ai, Xi, Ji, a1, a2, a3, a4, a5⟩ := hwi i (by omega)
      refine ⟨ai, Xi, Ji, a1, a2, ?_, sh_keepN a4 hA', a5⟩
      rw [eL, List.getElem?_append_left (by omega)] at a3
      exact a3
theorem l_lawLoop {b ws s n9 : Nat} {sc : Nat → Int} (hsc : (∀ j : Nat, sm (sc j)) ∧ s = 0) (hn9 : n9 ≤ 260) {M : List St} {K : St} {Φ : Option Value → pW → Prop} {w0 : pW} {B : Nat} (hB : B = 2 * pwsz (nP 0) + 19135) (KK : ∀ (w : pW) (aw n : Nat) (S : St) (L : List St), lawI b ws s n9 sc M K w aw n S L → gro (2846 * 44) (B * 44) w0 w → qE 158 (1636, [(4, .int (iI (n : Int))), (3, .ref ws), (2, .ref aw), (1, .ref b), (0, .ref s)], [], w) Φ) : ∀ (d k : Nat) (w : pW) (aw n : Nat) (S : St) (L : List St), k + d = 44 → lawI b ws s n9 sc M K w aw n S L → gro (2846 * k) (B * k) w0 w → qE 158 (38, [(5, .int (iI (k : Int))), (4, .int (iI (n : Int))), (3, .ref ws), (2, .ref aw), (1, .ref b), (0, .ref s)], [], w) Φ := by
  intro d
  induction d with
  | zero =>
    intro k w aw n S L hk hI hG
    have ek : k = 44 := by omega
    subst ek
    exact l_e38x (KK w aw n S L hI hG)
  | succ d ih =>
    intro k w aw n S L hk hI hG
    refine l_lawTurn hsc hn9 (by omega) hI (fun w' aw' n' S' L' hI' hG' => ?_)
    rw [← hB] at hG'
    exact ih (k + 1) w' aw' n' S' L' (by omega) hI' (gro_mono (gro_trans hG hG') (by omega) (by rw [Nat.mul_succ]; exact Nat.le_refl _))
theorem ar_2 (a b c : Nat) : a + (b + (0 + c)) ≤ a + b + c := by omega
theorem w_law {w0 : pW} {s n9 : Nat} {sc : Nat → Int} (hs : w0[s]? = some (cS n9 sc)) (hsc : (∀ j : Nat, sm (sc j)) ∧ s = 0) (hn9 : n9 ≤ 260) {B : Nat} (hB : B = 2 * pwsz (nP 0) + 19135) : qC 158 [.ref s] w0 (fun r w' => r = some (.int (bI true)) ∧ gro (107 + 757 + 2846 * 44 + 757 * 21) (pwsz (nP 0) + 1740 + 3835 + B * 44 + 3835 * 21) w0 w') := by
  refine pc_run (lv := [(0, .ref s)]) rfl ?_
  refine pe_go (pc := 0) rfl s_newO ?_
  show qE 158 (3, _, _, w0 ++ nO1 w0.length) _
  refine pe_go (pc := 3) rfl (s_dup rfl) ?_
  refine pe_callE rfl (s_invI rfl app_new rfl rfl) (w_new (pre := w0) rfl) ?_
  rintro _ w1 ⟨rfl, T0, hT0, hO0⟩
  have hk1 : obk w1 w0.length T0 [] [] T0 := ⟨w0, [], rfl, hO0⟩
  obtain ⟨x, hx, ew1, sx⟩ := OB_split hO0
  have hp1 : pfx w0 w1 := ⟨x ++ [], ew1⟩
  have hl1 : w1.length = w0.length + 57 := by rw [ew1, List.length_append, List.length_append, hx]; rfl
  have hz1 : pwsz w1 = pwsz w0 + pwsz (nP 0) := by rw [ew1, pwsz_ap, pwsz_ap, sx]; rfl
  refine pe_go (pc := 7) rfl (s_astore_n (lv' := [(1, .ref w0.length), (0, .ref s)]) rfl) ?_
  have hobj : (w1 ++ [.inr (9, [.null, .null, .null, .int 0])])[w1.length]? = some (.inr (9, [.null, .null, .null, .int 0])) := app_new
  have hlen : (w1 ++ [(.inr (9, [.null, .null, .null, .int 0]) : pCell)]).length = w1.length + 1 := by rw [List.length_append]; rfl
  refine pe_go (pc := 8) rfl s_newO ?_
  rw [sheet_new]
  refine pe_go (pc := 11) rfl (s_dup rfl) ?_
  refine pe_callE rfl (s_invI rfl hobj rfl rfl) (w_init hlen hobj) ?_
  rintro _ w2 ⟨rfl, hV, g2, z2⟩
  have z2' : gro 49 1700 w1 w2 := gro_mono (gro_trans (gro_app w1 (.inr (9, [.null, .null, .null, .int 0]))) z2) (by decide) (by decide)
  have hp2 : pfx w1 w2 := pfx_agr (pfx_app (pfx_refl w1) _) g2 (fun i e => by have e : i = w1.length := e; omega)
  have hV2 : shAt w2 (Nb w0.length) (Nb w0.length) w1.length Sh.first := sh_mono hV (fun i _ q z => by have := z.2; rcases q with q | q <;> omega) (fun i _ q z => by have := z.2; have := q.1; omega)
  have hk2 : obk w2 w0.length T0 [] [] T0 := obk_agr hk1 (pfx_gro (P := fun _ => False) hp2) (fun i e => e.elim)
  refine pe_go (pc := 15) rfl (s_astore_n (lv' := [(2, .ref w1.length), (1, .ref w0.length), (0, .ref s)]) rfl) ?_
  refine pe_go (pc := 16) rfl (s_aload_n rfl) ?_
  refine pe_go (pc := 17) rfl (s_aload_n rfl) ?_
  refine pe_callE rfl (s_invS rfl rfl rfl) (k_same hk2 hV2 hT0 (fun i q => ⟨fun z => z q, fun z => z q⟩)) ?_
  rintro _ w3 ⟨rfl, hk3, hA3, hG3⟩
  have hA3' : agr (fun i => inO w0.length i ∨ w2.length ≤ i) w2 w3 := agr_mono hA3 (fun _ z => Or.inl z)
  refine pe_go (pc := 21) rfl (s_ifne_true rfl) ?_
  refine pe_go (pc := 26) rfl (s_bipush (z := 40) rfl) ?_
  refine pe_go (pc := 28) rfl (s_newR (n := 40) rfl (by decide)) ?_
  have hsl := get_lt hs
  have hsb : ¬ inO w0.length s := fun z => by have := z.1; omega
  have hs3 : w3[s]? = some (cS n9 sc) := cell_agr hA3 (pfx_cell (pfx_trans hp1 hp2) hs) hsb
  obtain ⟨w4, ew4⟩ : ∃ w4 : pW, w4 = w3 ++ [.inl (5, 40, rfs (fun _ => none))] := ⟨_, rfl⟩
  rw [← ew4]
  have hp4 : pfx w3 w4 := ⟨_, ew4⟩
  have hl4 : w4.length = w3.length + 1 := by rw [ew4, List.length_append]; rfl
  have hz4 : pwsz w4 = pwsz w3 + 40 := by
    rw [ew4, pwsz_app]
    rfl
  have hws : w4[w3.length]? = some (.inl (5, 40, rfs (fun _ => none))) := by rw [ew4]; exact get_end rfl
  have hV4 := shAt_pfx hp4 (sh_keepN hV2 hA3')
  have hk4 : obk w4 w0.length T0 [] [] T0 := obk_agr hk3 (pfx_gro (P := fun _ => False) hp4) (fun i e => e.elim)
  have hl3 := hA3.1
  have hl2 := pfx_len hp2
  refine pe_go (pc := 31) rfl (s_astore_n (lv' := [(3, .ref w3.length), (2, .ref w1.length), (1, .ref w0.length), (0, .ref s)]) rfl) ?_
  refine pe_go (pc := 32) rfl (s_iconst (z := 0) rfl) ?_
  refine pe_go (pc := 33) rfl (s_istore (lv' := [(4, .int (iI ((0 : Nat) : Int))), (3, .ref w3.length), (2, .ref w1.length), (1, .ref w0.length), (0, .ref s)]) rfl) ?_
  refine pe_go (pc := 35) rfl (s_iconst (z := 0) rfl) ?_
  refine pe_go (pc := 36) rfl (s_istore (lv' := [(5, .int (iI ((0 : Nat) : Int))), (4, .int (iI ((0 : Nat) : Int))), (3, .ref w3.length), (2, .ref w1.length), (1, .ref w0.length), (0, .ref s)]) rfl) ?_
  have hG0 : gro (107 + 757) (pwsz (nP 0) + 1740 + 3835) w0 w4 := by
    have a1 := z2'.1
    have a2 := z2'.2
    have a3 := hG3.1
    have a4 := hG3.2
    generalize pwsz (nP 0) = A at hz1 ⊢
    exact ⟨by omega, by omega⟩
  refine l_lawLoop hsc hn9 hB (w0 := w4) (fun w5 aw n S L hI hG5 => ?_) 44 0 w4 w1.length 0 T0 [] (by decide) ⟨hk4, ⟨_, hV4, hT0⟩, rfl, by decide, ⟨fun z => by have := z.2; omega, _, hws, fun i hi => absurd hi (Nat.not_lt_zero i), fun i j ai hij hj => absurd hj (Nat.not_lt_zero j)⟩, hsb, pfx_cell hp4 hs3⟩ (gro_0 _)
  obtain ⟨ho5, ⟨X5, hw5, hR5⟩, hn5, hL5, hwas5, -, -⟩ := hI
  refine l_e1636 ho5 (fun w6 ho6 hc6 => ?_)
  have hA6 : agr (fun i => inO w0.length i ∨ w5.length ≤ i) w5 w6 := P_chg hc6
  subst hn5
  refine l_lawEnd hR5 (obk_ok ho5) rfl (w0 := w6) (fun w7 hG7 => ⟨rfl, ?_⟩) L.length L w6 S rfl hL5 ho6 (sh_keepN hw5 hA6) (was_keepN hwas5 hA6) (gro_mono (gro_0 _) (Nat.zero_le _) (Nat.zero_le _))
  exact gro_mono (gro_trans hG0 (gro_trans hG5 (gro_trans (g_chg hc6) hG7))) (by omega) (ar_2 _ _ _)
