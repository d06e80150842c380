/-! THE LAW: its loop, whole. By hand. -/
theorem ar_1 (A : Nat) : 3300 + (A + 12000) ≤ A + 15300 := by omega
theorem l_lawTurn {w : pW} {b k n ws aw s n9 : Nat} {sc : Nat → Int} (hsc : (∀ j : Nat, sm (sc j)) ∧ s = 0) (hn9 : n9 ≤ 260) (hk4 : k < 44) {M : List St} {K : St} {S : St} {L : List St} (hI : lawI b ws s n9 sc M K w aw n S L) {Φ : Option Value → pW → Prop}
    (KK : ∀ (w' : pW) (aw' n' : Nat) (S' : St) (L' : List St), lawI b ws s n9 sc M K w' aw' n' S' L' → gro 2846 (2 * pwsz (nP 0) + 19135) w w' → qE 158 (38, [(5, .int (iI ((k + 1 : Nat) : Int))), (4, .int (iI (n' : Int))), (3, .ref ws), (2, .ref aw'), (1, .ref b), (0, .ref s)], [], w') Φ) : qE 158 (38, [(5, .int (iI (k : Int))), (4, .int (iI (n : Int))), (3, .ref ws), (2, .ref aw), (1, .ref b), (0, .ref s)], [], w) Φ := by
  obtain ⟨ho, ⟨Xw, hw, hRw⟩, hn, hL, hwas, hsb, hs⟩ := hI
  have hbn := obk_len ho
  obtain ⟨hawb, hawn, fsw, hwo⟩ := sh_objN hw
  refine l_h38 hk4 hs hsc hn9 hw (fun w1 c x y hx0 hy0 hcn hu hA1 hG1 => ?_)
  have hA1' : agr (fun i => inO b i ∨ w.length ≤ i) w w1 := agr_mono hA1 (fun _ z => Or.inr z)
  have hu1 : shAt w1 (fun i => w.length ≤ i) (fun i => ¬ inO b i) c Xw := sh_mono hu (fun i _ z => z) (fun i _ z => by
    rcases z with z | z
    · exact z
    · exact fun q => by have := q.2; omega)
  have ho1 : obk w1 b S L M K := obk_own hbn ho hA1
  have hwas1 := was_keepN hwas hA1'
  have hw1 : shAt w1 (fun i => ¬ inO b i ∧ i < w.length) (fun i => ¬ inO b i ∧ i < w.length) aw Xw := sh_agr (shAt_lt hw) hA1 (fun i z => ⟨fun q => by have := q.2; have z : w.length ≤ i := z; omega, fun q => by have := q.2; have z : w.length ≤ i := z; omega⟩)
  -- what follows a case
  have fin : ∀ (w' : pW) (aw' n' : Nat) (S' : St) (L' : List St), lawI b ws s n9 sc M K w' aw' n' S' L' → gro 2089 (2 * pwsz (nP 0) + 15300) w w' → qE 158 (1611, [(5, .int (iI (k : Int))), (4, .int (iI (n' : Int))), (3, .ref ws), (2, .ref aw'), (1, .ref b), (0, .ref s)], [], w') Φ := by
    intro w' aw' n' S' L' hI' hG'
    obtain ⟨ho', ⟨X', hw', hR'⟩, hn', hL', hwas', hsb', hs'⟩ := hI'
    refine l_t1611 ho' hw' hR' (fun i q => ⟨fun z => z q, fun z => z q⟩) hn' (by omega) (fun w2 ho2 hA2 hG2 => ?_)
    have hA2' : agr (fun i => inO b i ∨ w'.length ≤ i) w' w2 := agr_mono hA2 (fun _ z => Or.inl z)
    exact KK w2 aw' n' S' L' ⟨ho2, ⟨X', sh_keepN hw' hA2', hR'⟩, hn', hL', was_keepN hwas' hA2', hsb', cell_keepN hs' hsb' hA2'⟩ (gro_mono (gro_trans hG' hG2) (by omega) (by omega))
  have hc9 : aw ≠ c := by omega
  -- done
  have KKd : ∀ (w' : pW) (S' : St) (X' : Sh), obk w' b S' (pshL S L) M K → Rel S' X' → shAt w' (fun i => w.length ≤ i) (fun i => ¬ inO b i) c X' → agr (fun i => inO b i ∨ w.length ≤ i) w1 w' → gro 2000 (2 * pwsz (nP 0) + 12000) w1 w' → qE 158 (1559, [(9, .int (iI 1)), (8, .ref c), (5, .int (iI (k : Int))), (4, .int (iI (n : Int))), (3, .ref ws), (2, .ref aw), (1, .ref b), (0, .ref s)], [], w') Φ := by
    intro w' S' X' ho' hR' hs' hA' hG'
    have hA2 : agr (fun i => inO b i ∨ w.length ≤ i) w w' := P_trans hA1' hA'
    have hwas2 := was_keepN hwas hA2
    have hw2 := sh_keepN hw hA2
    obtain ⟨-, -, fs2, hwo2⟩ := sh_objN hw2
    have hs2 := cell_keepN hs hsb hA2
    have hGt : gro 2089 (2 * pwsz (nP 0) + 15300) w w' := gro_mono (gro_trans hG1 hG') (by decide) (ar_1 _)
    have hsN : shAt w' (Nb b) (Nb b) c X' := sh_mono hs' (fun i _ z q => by have := q.2; have z : w.length ≤ i := z; omega) (fun i _ z => z)
    obtain ⟨hwsb, wf, hws, hwi, hwd⟩ := hwas2
    have hold : ∀ (i ai : Nat), i < L.length → wf i = some ai → ai ≠ c := by
      intro i ai hi e ec
      obtain ⟨-, wf0, hws0, hwi0, -⟩ := hwas
      obtain ⟨ai', Xi, J, a1, a2, a3, a4, a5⟩ := hwi0 i hi
      have ewf := cell_keepN hws0 (hwsb) hA2
      rw [hws] at ewf
      have : wf = wf0 := by
        have e1 := Option.some.inj ewf
        have e1 := Sum.inl.inj e1
        have e1 := congrArg (fun q => q.2.2) e1
        have e1 : rfs wf = rfs wf0 := e1
        have e1 := Sum.inr.inj (Sum.inr.inj (Sum.inr.inj (Sum.inr.inj e1)))
        exact e1
      rw [this, a1] at e
      have e := Option.some.inj e
      have := (sh_objN a4).2.1
      omega
    have fin2 : ∀ (w2 : pW) (gg : Nat → Option Nat) (n' : Nat), w2 = w'.set ws (.inl (5, 40, rfs gg)) → n' = (pshL S L).length → wasI w2 b ws c (pshL S L) → qE 158 (1611, [(5, .int (iI (k : Int))), (4, .int (iI (n' : Int))), (3, .ref ws), (2, .ref c), (1, .ref b), (0, .ref s)], [], w2) Φ := by
      intro w2 gg n' ew hn' hwas'
      have hA3 : agr (fun i => i = ws) w' w2 := by rw [ew]; exact agr_set rfl
      refine fin w2 c n' S' (pshL S L) ⟨obk_agr ho' hA3 (fun i e q => hwsb (by have e : i = ws := e; rw [← e]; exact q)), ⟨X', by rw [ew]; exact sh_setws hsN hws, hR'⟩, hn', pshL_le hL, hwas', hsb, ?_⟩ ?_
      · refine cell_agr hA3 hs2 (fun e => ?_)
        have e : s = ws := e
        rw [e, hws] at hs2
        have hs2 := Option.some.inj hs2
        have hs2 := Sum.inl.inj hs2
        have h50 : (5 : Nat) = 6 := congrArg Prod.fst hs2
        exact absurd h50 (by decide)
      · have hG3 := gro_set (c' := .inl (5, 40, rfs gg)) hws rfl
        rw [← ew] at hG3
        exact gro_mono (gro_trans hGt hG3) (by omega) (by omega)
    by_cases h20 : L.length < 20
    · have epl : pshL S L = L ++ [S] := by unfold pshL; rw [if_pos h20]
      refine l_tail1 (by omega) ?_
      refine pe_go (pc := 1604) rfl (s_aast (kd := 5) (k := n) hws (by rw [hwo2]; rfl) rfl ⟨by omega, by decide⟩ rfl) ?_
      refine l_tail1605 ?_
      refine fin2 _ (va_up wf n (some aw)) (n + 1) rfl (by rw [epl, List.length_append, hn]; rfl) ?_
      rw [epl]
      exact was_push ⟨hwsb, wf, hws, hwi, hwd⟩ hw2 hRw hc9 (fun i ai hi wf9 h9 e9 => by
        rw [hws] at h9
        have e1 := Option.some.inj h9
        have e1 := Sum.inl.inj e1
        have e1 := congrArg (fun q => q.2.2) e1
        have e1 : rfs wf = rfs wf9 := e1
        have e1 := Sum.inr.inj (Sum.inr.inj (Sum.inr.inj (Sum.inr.inj e1)))
        rw [← e1] at e9
        exact hold i ai hi e9) (by omega) (fun wf9 h9 => by
        rw [hws] at h9
        have e1 := Option.some.inj h9
        have e1 := Sum.inl.inj e1
        have e1 := congrArg (fun q => q.2.2) e1
        have e1 : rfs wf = rfs wf9 := e1
        have e1 := Sum.inr.inj (Sum.inr.inj (Sum.inr.inj (Sum.inr.inj e1)))
        rw [hn, e1])
    · have hl20 : L.length = 20 := by omega
      have epl : pshL S L = L.tail ++ [S] := by unfold pshL; rw [if_neg h20]
      obtain rfl : n = 20 := by omega
      refine l_tail2 ?_
      refine l_wshift (wf := wf) (P := fun v => v = w' ∨ ∃ g9 : Nat → Option Nat, v = w'.set ws (.inl (5, 40, rfs g9))) (fun v gg hv hvw hg => ?_) (fun v f g9 hv hvw => ?_) (fun v i hv hi => ?_) 19 1 w' wf (by decide) (by decide) (Or.inl rfl) hws (fun j hj => by omega) (fun j _ _ => rfl)
      · refine l_tail1597 ?_
        have hvo : v[aw]? = some (.inr (9, fs2)) := by
          rcases hv with rfl | ⟨g9, rfl⟩
          · exact hwo2
          · exact set_keep hwo2 (fun e => by rw [e, hws] at hwo2; cases hwo2)
        refine pe_go (pc := 1604) rfl (s_aast (kd := 5) (k := 19) hvw (by rw [hvo]; rfl) rfl ⟨by decide, by decide⟩ rfl) ?_
        have ev : v.set ws (.inl (5, 40, rfs (va_up gg 19 (some aw)))) = w'.set ws (.inl (5, 40, rfs (va_up gg 19 (some aw)))) := by
          rcases hv with rfl | ⟨g9, rfl⟩
          · rfl
          · rw [List.set_set]
        rw [ev]
        refine l_tail1605 ?_
        refine fin2 _ (va_up gg 19 (some aw)) (19 + 1) rfl (by rw [epl, List.length_append, List.length_tail, hl20]; rfl) ?_
        rw [epl]
        exact was_shift hwsb hws hwi hwd hw2 hRw hc9 hold hl20 hg
      · rcases hv with rfl | ⟨g8, rfl⟩
        · exact Or.inr ⟨g9, rfl⟩
        · exact Or.inr ⟨g9, by rw [List.set_set]⟩
      · obtain ⟨ai, Xi, J, a1, a2, a3, a4, a5⟩ := hwi i (by omega)
        obtain ⟨-, -, fsi, hoi⟩ := sh_objN a4
        refine ⟨ai, fsi, a1, ?_⟩
        rcases hv with rfl | ⟨g9, rfl⟩
        · exact hoi
        · exact set_keep hoi (fun e => by rw [e, hws] at hoi; cases hoi)
  -- not done
  have KKn : ∀ w' : pW, obk w' b S L M K → agr (fun i => inO b i ∨ w.length ≤ i) w1 w' → gro 2000 (2 * pwsz (nP 0) + 12000) w1 w' → qE 158 (1559, [(9, .int (iI 0)), (8, .ref c), (5, .int (iI (k : Int))), (4, .int (iI (n : Int))), (3, .ref ws), (2, .ref aw), (1, .ref b), (0, .ref s)], [], w') Φ := by
    intro w' ho' hA' hG'
    have hA2 : agr (fun i => inO b i ∨ w.length ≤ i) w w' := P_trans hA1' hA'
    exact l_tail0 (fin w' aw n S L ⟨ho', ⟨Xw, sh_keepN hw hA2, hRw⟩, hn, hL, was_keepN hwas hA2, hsb, cell_keepN hs hsb hA2⟩ (gro_mono (gro_trans hG1 hG') (by decide) (ar_1 _)))
  have KKt : ∀ (w' : pW) (g9 : Int), (0 ≤ g9 ∧ g9 < 30047) → obk w' b (S.u_g g9) L M K → shAt w' (fun i => ¬ inO b i ∧ i < w.length) (fun i => ¬ inO b i ∧ i < w.length) aw (Xw.uG g9) → agr (fun i => (inO b i ∨ w.length ≤ i) ∨ i = aw) w1 w' → gro 2000 (2 * pwsz (nP 0) + 12000) w1 w' → qE 158 (1559, [(9, .int (iI 0)), (8, .ref c), (5, .int (iI (k : Int))), (4, .int (iI (n : Int))), (3, .ref ws), (2, .ref aw), (1, .ref b), (0, .ref s)], [], w') Φ := by
    intro w' g9 hg9 ho' hs' hA' hG'
    have hA2 : agr (fun i => (inO b i ∨ w.length ≤ i) ∨ i = aw) w w' := agr_trans (agr_mono hA1' (Q := fun i => (inO b i ∨ w.length ≤ i) ∨ i = aw) (fun _ z => Or.inl z)) hA' (fun _ z => z)
    refine l_tail0 (fin w' aw n (S.u_g g9) L ⟨ho', ⟨Xw.uG g9, sh_mono hs' (fun i _ z => z.1) (fun i _ z => z.1), hRw.uG g9⟩, hn, hL, was_keepO hwas hwo hA2, hsb, ?_⟩ (gro_mono (gro_trans hG1 hG') (by decide) (ar_1 _)))
    refine cell_agr hA2 hs (fun e => ?_)
    rcases e with (e | e) | e
    · exact hsb e
    · have := get_lt hs; omega
    · rw [e, hwo] at hs; cases hs
  have KKu : ∀ (L' : List St) (J : St) (m a2 : Nat) (wf : Nat → Option Nat), w1[ws]? = some (.inl (5, 40, rfs wf)) → L = L' ++ [J] → m = L'.length → n = m + 1 → wf m = some a2 → ∀ (w' : pW) (R : St), J.alike R → obk w' b R L' M K → chg b w1 w' → qE 158 (1559, [(9, .int (iI 0)), (8, .ref c), (5, .int (iI (k : Int))), (4, .int (iI (m : Int))), (3, .ref ws), (2, .ref a2), (1, .ref b), (0, .ref s)], [], w') Φ := by
    intro L' J m a2 wf hwf1 eL em en ea w' R hal ho' hc'
    have hA2 : agr (fun i => inO b i ∨ w.length ≤ i) w w' := P_trans hA1' (P_chg hc')
    obtain ⟨hwsb, wf0, hws0, hwi0, hwd0⟩ := hwas
    have ewf := cell_keepN hws0 hwsb hA1'
    rw [hwf1] at ewf
    have e1 : wf = wf0 := by
      have e1 := Option.some.inj ewf
      have e1 := Sum.inl.inj e1
      have e1 := congrArg (fun q => q.2.2) e1
      have e1 : rfs wf = rfs wf0 := e1
      exact Sum.inr.inj (Sum.inr.inj (Sum.inr.inj (Sum.inr.inj e1)))
    subst e1
    have hll : L.length = m + 1 := by rw [eL, List.length_append, em]; rfl
    obtain ⟨am, Xm, J', b1, b2, b3, b4, b5⟩ := hwi0 m (by omega)
    rw [ea] at b1
    have b1 := Option.some.inj b1
    subst b1
    have eJ : J' = J := by
      rw [eL, List.getElem?_append_right (by omega), em, Nat.sub_self] at b3
      exact (Option.some.inj b3).symm
    subst eJ
    have hJ : J'.Ok := by
      obtain ⟨pre, post, hb9, hO⟩ := ho
      exact hO.2.1 J' (by rw [eL]; exact List.mem_append_right _ (List.mem_singleton.mpr rfl))
    refine l_tail0 (fin w' a2 m R L' ⟨ho', ⟨Xm, sh_keepN b4 hA2, b5.alike hal hJ⟩, em, by omega, ?_, hsb, cell_keepN hs hsb hA2⟩ (gro_mono (gro_trans hG1 (g_chg hc')) (by omega) (by omega)))
    refine ⟨hwsb, wf, cell_keepN hws0 hwsb hA2, fun i hi => ?_, fun i j ai hij hj e1 e2 => hwd0 i j ai hij (by omega) e1 e2⟩
    obtain ⟨ai, Xi, Ji, a1, a2', a3, a4, a5⟩ := hwi0 i (by omega)
    refine ⟨ai, Xi, Ji, a1, fun e => hwd0 i m ai (by omega) (by omega) a1 (by rw [e]; exact ea), ?_, sh_keepN a4 hA2, a5⟩
    rw [eL, List.getElem?_append_left (by omega)] at a3
    exact a3
  obtain ⟨hwsb, wf1, hws1, hwi1, -⟩ := id hwas1
  refine l_h76 hx0 hy0 (fun grid px py bx by9 => ?_)
  refine l_h153 hx0 hy0 (fun p q hp hq => ?_)
  refine l_h207 hx0 hy0 hk4 (fun what hwh => ?_)
  have sx : sm px := ⟨by omega, by omega⟩
  have sy : sm py := ⟨by omega, by omega⟩
  have hlw := hA1.1
  have hwf1 : ∀ i : Nat, i < L.length → ∃ a2 : Nat, wf1 i = some a2 := fun i hi => by
    obtain ⟨ai, -, -, a1, -⟩ := hwi1 i hi
    exact ⟨ai, a1⟩
  refine l_h224 bx by9 (fun hin => ?_) (fun hin => ?_)
  · exact l_turn1 hbn ho1 hu1 hRw hlw hp hq hx0 hy0 hwh sx sy hin hw1 hawn hawb hws1 hwsb hn hL hwf1 KKd KKn KKt (fun L' J m a2 e1 e2 e3 e4 => KKu L' J m a2 wf1 hws1 e1 e2 e3 e4)
  · exact l_turn0 hbn ho1 hu1 hRw hlw hp hq hx0 hy0 hwh sx sy hin hw1 hawn hawb hws1 hwsb hn hL hwf1 KKd KKn KKt (fun L' J m a2 e1 e2 e3 e4 => KKu L' J m a2 wf1 hws1 e1 e2 e3 e4)
