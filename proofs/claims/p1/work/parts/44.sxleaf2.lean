/-! THE MACHINE FOR THE KERNEL: leaves that look into cells, calls, returns. By hand. -/
section LEAF2
variable {ρ : Nat → Int} {T : List Nat} {nx : Nat} {K : Prop}
theorem zIp {n : Nat} (h : n < 2147483648) : ¬ Int32.ofNat n < 0 := nI_pos (by omega)
theorem zIc {n : Nat} (h : n < 2147483648) : (Int32.ofNat n).toNatClampNeg = n := nI_clamp (by omega)
theorem zInB {m n : Nat} (h : m < n) (hn : n < 2147483648) : pInB (Int32.ofNat m) n = true := pInB_nI h (by omega)
theorem zs_tab {lo hi : Int} {ts : List Nat} {d : Nat} (h0 : 0 ≤ lo) (h1 : hi + 1 = lo + ts.length) (h2 : hi < 1000000) (hd : d ∈ T) (hts : ∀ t, t ∈ ts → t ∈ T) : zS ρ T nx K (fun lv st w => pTab lo hi (d :: ts) lv st w) (zq_tab lo.toNat ts d) := by
  intro kn E L S W v h
  obtain ⟨x, S, rfl, h⟩ := zL0 h
  have dflt : (∀ c, yV ρ x c → ∃ a, c = .int a) → (∀ a : Int32, yV ρ x (.int a) → okD ρ W.1 → a.toInt < lo ∨ hi < a.toInt) → E.1 d L S W = some v → zOut ρ T nx K (fun lv st w => pTab lo hi (d :: ts) lv st w) kn E L (x :: S) W v := by
    intro ix H h
    refine .inr (.inl ⟨d, _, _, _, hd, h, fun lv st w hL hT hW => ?_⟩)
    obtain ⟨c, st, rfl, hc, hq⟩ := yT_c hT
    clear hT
    have hT := hq
    clear hq
    obtain ⟨a, rfl⟩ := ix c hc
    refine ⟨lv, st, w, hL, hT, hW, ?_⟩
    have e : (decide (a.toInt < lo) || decide (hi < a.toInt)) = true := by
      rw [Bool.or_eq_true, decide_eq_true_iff, decide_eq_true_iff]
      exact H a hc hW.1
    show pTab lo hi (d :: ts) lv (.int a :: st) w = _
    unfold pTab
    simp only [e, cond_true]
    rfl
  rcases zS2 h with ⟨n, rfl, h⟩ | ⟨z, rfl, h⟩
  · rcases zBi h with ⟨h3, h⟩ | ⟨h3, h⟩
    · rw [Bool.or_eq_false_iff] at h3
      have g1 := nblef h3.1
      have g2 := nblef h3.2
      cases ht : ts[Nat.sub n lo.toNat]? with
      | none =>
        rw [ht] at h
        obtain ⟨_, h⟩ := zBt h
        refine dflt (fun c hc => ⟨_, hc.2⟩) (fun a ha _ => ?_) h
        obtain ⟨hn, ea⟩ := ha
        injection ea with ea
        rw [i32s hn ea, zZ_eq, if_neg (by omega)]
        have := List.getElem?_eq_none_iff.mp ht
        have e3 : Nat.sub n lo.toNat = n - lo.toNat := rfl
        omega
      | some t =>
        rw [ht] at h
        have hl := (List.getElem?_eq_some_iff.mp ht).1
        have e3 : Nat.sub n lo.toNat = n - lo.toNat := rfl
        refine .inr (.inl ⟨t, _, _, _, hts t (List.mem_of_getElem? ht), h, fun lv st w hL hT hW => ?_⟩)
        obtain ⟨c, st, rfl, ⟨hn, rfl⟩, hq⟩ := yT_c hT
        clear hT
        have hT := hq
        clear hq
        refine ⟨lv, st, w, hL, hT, hW, ?_⟩
        have ez : (Int32.ofNat n).toInt = n := by rw [i32t hn, zZ_eq, if_neg (by omega)]
        have e : (decide ((n : Int) < lo) || decide (hi < (n : Int))) = false := by
          rw [Bool.or_eq_false_iff, decide_eq_false_iff_not, decide_eq_false_iff_not]
          omega
        show pTab lo hi (d :: ts) lv (.int (Int32.ofNat n) :: st) w = _
        unfold pTab
        simp only [ez, e, cond_false]
        rw [show ((n : Int) - lo).toNat = Nat.sub n lo.toNat by omega, ht]
        rfl
    · rw [Bool.or_eq_true] at h3
      refine dflt (fun c hc => ⟨_, hc.2⟩) (fun a ha _ => ?_) h
      obtain ⟨hn, ea⟩ := ha
      injection ea with ea
      rw [i32s hn ea, zZ_eq]
      rcases h3 with h3 | h3
      · have := pBle h3
        rw [if_pos this]
        omega
      · have := pBle h3
        split <;> omega
  · have hk : ∀ T' u s, zBr T' (zCmp W.1 (.inr z) u) = some s → T' = (true, false, false) ∨ T' = (false, true, true) → ∃ p q, zPi (.inr z) = some p ∧ zPi u = some q := by
      intro T' u s e he
      unfold zCmp at e
      split at e
      · rename_i p q hp hq
        exact ⟨p, q, hp, hq⟩
      · rcases he with rfl | rfl <;> cases e
    rcases zSl_ok h with ⟨e, h⟩ | ⟨e, h⟩
    · rcases zSl_ok h with ⟨e2, h⟩ | ⟨e2, h⟩
      · cases h
      · obtain ⟨p, q, hp, hq⟩ := hk _ _ _ e2 (.inr rfl)
        refine dflt (fun c hc => ⟨_, zPi_ok hp hc⟩) (fun a ha hD => .inr ?_) h
        have hlt : lo.toNat + ts.length < 2147483648 := by omega
        have hs := zCmp_ok hD ha (show yV ρ (.inl (Nat.add lo.toNat ts.length)) (.int (Int32.ofNat (lo.toNat + ts.length))) from ⟨by show lo.toNat + ts.length < _; omega, rfl⟩)
        rw [i32t (n := lo.toNat + ts.length) (by omega), zZ_eq, if_neg (by omega)] at hs
        rcases zBr_t hs e2 with ⟨g, g2⟩ | ⟨g, g2⟩ | ⟨g, g2⟩ <;> first | (cases g2; done) | omega
    · obtain ⟨p, q, hp, hq⟩ := hk _ _ _ e (.inl rfl)
      refine dflt (fun c hc => ⟨_, zPi_ok hp hc⟩) (fun a ha hD => .inl ?_) h
      have hs := zCmp_ok hD ha (show yV ρ (.inl lo.toNat) (.int (Int32.ofNat lo.toNat)) from ⟨by omega, rfl⟩)
      rw [i32t (n := lo.toNat) (by omega), zZ_eq, if_neg (by omega)] at hs
      rcases zBr_t hs e with ⟨g, g2⟩ | ⟨g, g2⟩ | ⟨g, g2⟩ <;> first | (cases g2; done) | omega
theorem yW_o {W : zW} {w : pW} {a ci : Nat} {fs : List zV} (hW : yW ρ W w) (h : W.2.2.get a = .inr (ci, fs)) : ∃ gs, w[a]? = some (.inr (ci, gs)) ∧ yT ρ fs gs := by
  have := hW.2.2 a
  rw [h] at this
  exact this
theorem yW_i {W : zW} {w : pW} {a k n : Nat} {t : Lean.RArray zV} (hW : yW ρ W w) (h : W.2.2.get a = .inl (k, n, t)) (hk : k ≤ 2) (h1 : ¬ k = 1) : n < 2147483648 ∧ ∃ f, w[a]? = some (.inl (k, n, .inl f)) ∧ ∀ j, j < n → yV ρ (t.get j) (.int (f j)) := by
  have := hW.2.2 a
  rw [h] at this
  obtain ⟨g1, _, g3⟩ := this hk
  exact ⟨g1, g3 h1⟩
theorem yW_l {W : zW} {w : pW} {a n : Nat} {t : Lean.RArray zV} (hW : yW ρ W w) (h : W.2.2.get a = .inl (1, n, t)) : n < 2147483648 ∧ ∃ f, w[a]? = some (.inl (1, n, .inr (.inl f))) ∧ ∀ j, j < n → yV ρ (t.get j) (.long (f j)) := by
  have := hW.2.2 a
  rw [h] at this
  obtain ⟨g1, g2, _⟩ := this (by decide)
  exact ⟨g1, g2 rfl⟩
theorem zs_getf {ci k e : Nat} : zS ρ T nx K (fun lv st w => pGetF nx [ci, k, e] lv st w) (zq_getf ci k) := by
  intro kn E L S W v h
  obtain ⟨x, S, rfl, h⟩ := zL0 h
  obtain ⟨a, rfl, h⟩ := zR0 h
  obtain ⟨fs, hc, h⟩ := zC0 h
  obtain ⟨u, hu, h⟩ := zGetK_ok h
  refine .inl ⟨_, _, _, h, fun lv st w hL hT hW => ?_⟩
  obtain ⟨c, st, rfl, ha, hq⟩ := yT_c hT
  clear hT
  have hT := hq
  clear hq
  have ha : c = .ref a := ha
  subst ha
  obtain ⟨gs, hw, hg⟩ := yW_o hW hc
  obtain ⟨y, hy, hv⟩ := yT_get hg hu
  exact ⟨lv, _, w, hL, yT_k hv hT, hW, ps_getf hw hy⟩
def zTy (f : FieldType) : Nat := match f with
  | .int => 0
  | .long => 1
  | .object _ => 2
  | .array _ => 2
  | _ => 9
theorem zFit_ok {f : FieldType} {v : zV} {r : zR} {x : Option zV × zW} (h : zFit (zTy f) v r = some x) : r = some x ∧ ∀ ρ c, yV ρ v c → pFits f c = true := by
  cases f
  case int =>
    obtain ⟨h, H⟩ := zTi_ok h
    exact ⟨h, fun ρ c hv => by obtain ⟨i, rfl⟩ := H ρ c hv; rfl⟩
  case long =>
    obtain ⟨h, H⟩ := zTl_ok h
    exact ⟨h, fun ρ c hv => by obtain ⟨i, rfl⟩ := H ρ c hv; rfl⟩
  case object s =>
    obtain ⟨h, H⟩ := zTr_ok h
    exact ⟨h, fun ρ c hv => by obtain ⟨i, rfl⟩ := H ρ c hv; rfl⟩
  case array s =>
    obtain ⟨h, H⟩ := zTr_ok h
    exact ⟨h, fun ρ c hv => by obtain ⟨i, rfl⟩ := H ρ c hv; rfl⟩
  all_goals cases h
theorem zs_putf {ci k e : Nat} : zS ρ T nx K (fun lv st w => pPutF nx [ci, k, e] lv st w) (zq_putf ci k (zTy (pTf ci k))) := by
  intro kn E L S W v h
  obtain ⟨y, S, rfl, h⟩ := zL0 h
  obtain ⟨x, S, rfl, h⟩ := zL0 h
  obtain ⟨h, hf⟩ := zFit_ok h
  obtain ⟨a, rfl, h⟩ := zR0 h
  obtain ⟨fs, hc, h⟩ := zC0 h
  obtain ⟨fs', h, hs⟩ := zSetF_ok h
  obtain ⟨W', h, hW'⟩ := zPut_ok h
  refine .inl ⟨_, _, _, h, fun lv st w hL hT hW => ?_⟩
  obtain ⟨d, st, rfl, hd, hq⟩ := yT_c hT
  clear hT
  have hT := hq
  clear hq
  obtain ⟨c, st, rfl, ha, hq⟩ := yT_c hT
  clear hT
  have hT := hq
  clear hq
  have ha : c = .ref a := ha
  subst ha
  obtain ⟨gs, hw, hg⟩ := yW_o hW hc
  obtain ⟨h1, h2⟩ := hs ρ gs d hg hd
  exact ⟨lv, _, _, hL, hT, hW' ρ w _ _ hW hw ⟨_, rfl, h2⟩, ps_putf hw h1 (hf ρ d hd)⟩
theorem zAll_ok {t : Lean.RArray zV} {c lo : Nat} : ∀ {n : Nat}, zAll t c lo n = true → ∀ j, j < n → t.get (lo + j) = .inl c := by
  intro n
  induction n with
  | zero => intro _ j hj; omega
  | succ n ih =>
    intro h j hj
    have h : Sum.rec (motive := fun _ => Bool) (fun m => Nat.beq m c && zAll t c lo n) (fun _ => false) (t.get (lo + n)) = true := h
    cases e : t.get (lo + n) with
    | inr z => rw [e] at h; cases h
    | inl m =>
      rw [e] at h
      have h : (Nat.beq m c && zAll t c lo n) = true := h
      rw [Bool.and_eq_true] at h
      rcases Nat.lt_or_ge j n with z | z
      · exact ih h.2 j z
      · have : j = n := by omega
        rw [this, e, pBeq h.1]
theorem zLdS_ok {D : zD} (hD : okD ρ D) {x : zV} {n : Nat} {t : Lean.RArray zV} {u : zV} {c : Value} (h : zLdS D x n t = some u) (hx : yV ρ x c) (hn : n < 2147483648) : ∃ m, m < n ∧ c = .int (Int32.ofNat m) ∧ t.get m = u := by
  unfold zLdS at h
  split at h
  · rename_i p
    rcases pCond h with ⟨hc, h⟩ | ⟨_, h⟩
    · rw [Bool.and_eq_true, Bool.and_eq_true] at hc
      obtain ⟨c1, c2, c3⟩ := hc
      have c1 := zLe_ok c1
      have c2 := zLe_ok c2
      have c3 := zLe_ok c3
      obtain ⟨b1, b2⟩ := zPb_ok hD (p := p)
      split at h
      · rename_i m hm
        rcases pCond h with ⟨hc, h⟩ | ⟨_, h⟩
        · cases h
          have hx : c = .int (Int32.ofInt (evP ρ p)) := hx
          have c2 : (zPb D p).2 + 1 ≤ (n : Int) := c2
          refine ⟨(evP ρ p).toNat, by omega, ?_, ?_⟩
          · rw [hx, ← Int32.ofInt_eq_ofNat, Int.toNat_of_nonneg (by omega)]
          · have := zAll_ok hc ((evP ρ p).toNat - (zPb D p).1.toNat) (by omega)
            rw [show (zPb D p).1.toNat + ((evP ρ p).toNat - (zPb D p).1.toNat) = (evP ρ p).toNat by omega] at this
            exact this
        · cases h
      · cases h
    · cases h
  · cases h
theorem zs_ildk {kd : Nat} (hk : kd ≤ 2) (h1 : ¬ kd = 1) : zS ρ T nx K (fun lv st w => pALd nx kd lv st w) (zq_ild_ kd) := by
  intro kn E L S W v h
  obtain ⟨x, S, rfl, h⟩ := zL0 h
  obtain ⟨y, S, rfl, h⟩ := zL0 h
  obtain ⟨a, rfl, h⟩ := zR0 h
  obtain ⟨n, t, hc, h⟩ := zA0 h
  rcases zS2 h with ⟨m, rfl, h⟩ | ⟨z, rfl, h⟩
  · obtain ⟨h2, h⟩ := zBt h
    have h := zPush_ok h
    have h2 : 1 + m ≤ n := pBle h2
    refine .inl ⟨_, _, _, h, fun lv st w hL hT hW => ?_⟩
    obtain ⟨d, st, rfl, ⟨hm, rfl⟩, hq⟩ := yT_c hT
    clear hT
    have hT := hq
    clear hq
    obtain ⟨c, st, rfl, ha, hq⟩ := yT_c hT
    clear hT
    have hT := hq
    clear hq
    have ha : c = .ref a := ha
    subst ha
    obtain ⟨hn, f, hw, hf⟩ := yW_i hW hc hk h1
    refine ⟨lv, _, w, hL, yT_k (hf m (by omega)) hT, hW, ?_⟩
    have := ps_ald (pc := nx) (kd := kd) (lv := lv) (st := st) hw (zInB (m := m) (n := n) (by omega) hn)
    rw [zIc (by omega)] at this
    exact this
  · obtain ⟨u, e, h⟩ := zOp_ok h
    refine .inl ⟨_, _, _, h, fun lv st w hL hT hW => ?_⟩
    obtain ⟨d, st, rfl, hd, hq⟩ := yT_c hT
    clear hT
    have hT := hq
    clear hq
    obtain ⟨c, st, rfl, ha, hq⟩ := yT_c hT
    clear hT
    have hT := hq
    clear hq
    have ha : c = .ref a := ha
    subst ha
    obtain ⟨hn, f, hw, hf⟩ := yW_i hW hc hk h1
    obtain ⟨m, hm, rfl, hu⟩ := zLdS_ok hW.1 e hd hn
    have hm : m < n := hm
    refine ⟨lv, _, w, hL, yT_k (hu ▸ hf m hm) hT, hW, ?_⟩
    have := ps_ald (pc := nx) (kd := kd) (lv := lv) (st := st) hw (zInB (m := m) (n := n) (by omega) hn)
    rw [zIc (by omega)] at this
    exact this
theorem zs_lldk : zS ρ T nx K (fun lv st w => pALdL nx lv st w) (zq_ild_ 1) := by
  intro kn E L S W v h
  obtain ⟨x, S, rfl, h⟩ := zL0 h
  obtain ⟨y, S, rfl, h⟩ := zL0 h
  obtain ⟨a, rfl, h⟩ := zR0 h
  obtain ⟨n, t, hc, h⟩ := zA0 h
  rcases zS2 h with ⟨m, rfl, h⟩ | ⟨z, rfl, h⟩
  · obtain ⟨h2, h⟩ := zBt h
    have h := zPush_ok h
    have h2 : 1 + m ≤ n := pBle h2
    refine .inl ⟨_, _, _, h, fun lv st w hL hT hW => ?_⟩
    obtain ⟨d, st, rfl, ⟨hm, rfl⟩, hq⟩ := yT_c hT
    clear hT
    have hT := hq
    clear hq
    obtain ⟨c, st, rfl, ha, hq⟩ := yT_c hT
    clear hT
    have hT := hq
    clear hq
    have ha : c = .ref a := ha
    subst ha
    obtain ⟨hn, f, hw, hf⟩ := yW_l hW hc
    refine ⟨lv, _, w, hL, yT_k (hf m (by omega)) hT, hW, ?_⟩
    have := ps_aldl (pc := nx) (lv := lv) (st := st) hw (zInB (m := m) (n := n) (by omega) hn)
    rw [zIc (by omega)] at this
    exact this
  · obtain ⟨u, e, h⟩ := zOp_ok h
    refine .inl ⟨_, _, _, h, fun lv st w hL hT hW => ?_⟩
    obtain ⟨d, st, rfl, hd, hq⟩ := yT_c hT
    clear hT
    have hT := hq
    clear hq
    obtain ⟨c, st, rfl, ha, hq⟩ := yT_c hT
    clear hT
    have hT := hq
    clear hq
    have ha : c = .ref a := ha
    subst ha
    obtain ⟨hn, f, hw, hf⟩ := yW_l hW hc
    obtain ⟨m, hm, rfl, hu⟩ := zLdS_ok hW.1 e hd hn
    have hm : m < n := hm
    refine ⟨lv, _, w, hL, yT_k (hu ▸ hf m hm) hT, hW, ?_⟩
    have := ps_aldl (pc := nx) (lv := lv) (st := st) hw (zInB (m := m) (n := n) (by omega) hn)
    rw [zIc (by omega)] at this
    exact this
theorem zs_iast : zS ρ T nx K (fun lv st w => pASt nx lv st w) zq_iast := by
  intro kn E L S W v h
  obtain ⟨u, S, rfl, h⟩ := zL0 h
  obtain ⟨x, S, rfl, h⟩ := zL0 h
  obtain ⟨y, S, rfl, h⟩ := zL0 h
  obtain ⟨h, hu⟩ := zTi_ok h
  obtain ⟨a, rfl, h⟩ := zR0 h
  obtain ⟨n, t, hc, h⟩ := zA0 h
  obtain ⟨m, rfl, h⟩ := zI0 h
  obtain ⟨h2, h⟩ := zBt h
  have h2 : 1 + m ≤ n := pBle h2
  obtain ⟨t', h, ht⟩ := zSetA_ok h
  obtain ⟨W', h, hW'⟩ := zPut_ok h
  refine .inl ⟨_, _, _, h, fun lv st w hL hT hW => ?_⟩
  obtain ⟨e, st, rfl, he, hq⟩ := yT_c hT
  clear hT
  have hT := hq
  clear hq
  obtain ⟨d, st, rfl, ⟨hm, rfl⟩, hq⟩ := yT_c hT
  clear hT
  have hT := hq
  clear hq
  obtain ⟨c, st, rfl, ha, hq⟩ := yT_c hT
  clear hT
  have hT := hq
  clear hq
  have ha : c = .ref a := ha
  subst ha
  obtain ⟨i, rfl⟩ := hu ρ e he
  obtain ⟨hn, f, hw, hf⟩ := yW_i hW hc (by decide) (by decide)
  have this := ps_ast (pc := nx) (lv := lv) (st := st) (y := i) hw (zInB (m := m) (n := n) (by omega) hn)
  rw [zIc (by omega)] at this
  refine ⟨lv, _, _, hL, hT, hW' ρ w _ _ hW hw (fun _ => ⟨hn, fun e => absurd e (by decide), fun _ => ⟨_, rfl, fun j hj => ?_⟩⟩), this⟩
  rw [ht j (Nat.zero_le _) hj]
  unfold upd
  by_cases ej : j = m
  · rw [if_pos ej, if_pos ej]
    exact he
  · rw [if_neg ej, if_neg ej]
    exact hf j hj
theorem zs_last : zS ρ T nx K (fun lv st w => pAStL nx lv st w) zq_last := by
  intro kn E L S W v h
  obtain ⟨u, S, rfl, h⟩ := zL0 h
  obtain ⟨x, S, rfl, h⟩ := zL0 h
  obtain ⟨y, S, rfl, h⟩ := zL0 h
  obtain ⟨h, hu⟩ := zTl_ok h
  obtain ⟨a, rfl, h⟩ := zR0 h
  obtain ⟨n, t, hc, h⟩ := zA0 h
  obtain ⟨m, rfl, h⟩ := zI0 h
  obtain ⟨h2, h⟩ := zBt h
  have h2 : 1 + m ≤ n := pBle h2
  obtain ⟨t', h, ht⟩ := zSetA_ok h
  obtain ⟨W', h, hW'⟩ := zPut_ok h
  refine .inl ⟨_, _, _, h, fun lv st w hL hT hW => ?_⟩
  obtain ⟨e, st, rfl, he, hq⟩ := yT_c hT
  clear hT
  have hT := hq
  clear hq
  obtain ⟨d, st, rfl, ⟨hm, rfl⟩, hq⟩ := yT_c hT
  clear hT
  have hT := hq
  clear hq
  obtain ⟨c, st, rfl, ha, hq⟩ := yT_c hT
  clear hT
  have hT := hq
  clear hq
  have ha : c = .ref a := ha
  subst ha
  obtain ⟨i, rfl⟩ := hu ρ e he
  obtain ⟨hn, f, hw, hf⟩ := yW_l hW hc
  have this := ps_astl (pc := nx) (lv := lv) (st := st) (y := i) hw (zInB (m := m) (n := n) (by omega) hn)
  rw [zIc (by omega)] at this
  refine ⟨lv, _, _, hL, hT, hW' ρ w _ _ hW hw (fun _ => ⟨hn, fun _ => ⟨_, rfl, fun j hj => ?_⟩, fun e => absurd rfl e⟩), this⟩
  rw [ht j (Nat.zero_le _) hj]
  unfold vp_updL
  by_cases ej : j = m
  · rw [if_pos ej, if_pos ej]
    exact he
  · rw [if_neg ej, if_neg ej]
    exact hf j hj
theorem nar01 {n : Nat} (h : n ≤ 1) : vp_nar .boolean (Int32.ofNat n) = Int32.ofNat n := by
  have : n = 0 ∨ n = 1 := by omega
  rcases this with rfl | rfl <;> decide
theorem zs_bast : zS ρ T nx K (fun lv st w => pAStZ nx lv st w) zq_bast := by
  intro kn E L S W v h
  obtain ⟨u, S, rfl, h⟩ := zL0 h
  obtain ⟨x, S, rfl, h⟩ := zL0 h
  obtain ⟨y, S, rfl, h⟩ := zL0 h
  obtain ⟨b, rfl, h⟩ := zI0 h
  obtain ⟨hb, h⟩ := zBt h
  have hb : b ≤ 1 := pBle hb
  obtain ⟨a, rfl, h⟩ := zR0 h
  obtain ⟨n, t, hc, h⟩ := zA0 h
  obtain ⟨m, rfl, h⟩ := zI0 h
  obtain ⟨h2, h⟩ := zBt h
  have h2 : 1 + m ≤ n := pBle h2
  obtain ⟨t', h, ht⟩ := zSetA_ok h
  obtain ⟨W', h, hW'⟩ := zPut_ok h
  refine .inl ⟨_, _, _, h, fun lv st w hL hT hW => ?_⟩
  obtain ⟨e, st, rfl, he, hq⟩ := yT_c hT
  clear hT
  have hT := hq
  clear hq
  obtain ⟨d, st, rfl, ⟨hm, rfl⟩, hq⟩ := yT_c hT
  clear hT
  have hT := hq
  clear hq
  obtain ⟨c, st, rfl, ha, hq⟩ := yT_c hT
  clear hT
  have hT := hq
  clear hq
  have ha : c = .ref a := ha
  subst ha
  have he2 : e = .int (Int32.ofNat b) := he.2
  subst he2
  obtain ⟨hn, f, hw, hf⟩ := yW_i hW hc (by decide) (by decide)
  have this : pAStZ nx lv (.int (Int32.ofNat b) :: .int (Int32.ofNat m) :: .ref a :: st) w = some (.inl (nx, lv, st, w.set a (.inl (2, n, .inl (upd f m (Int32.ofNat b)))))) := by
    unfold pAStZ pGo1
    simp only [hw, zInB (m := m) (n := n) (by omega) hn, Nat.beq_refl, Bool.and_self, cond_true, nar01 hb]
    rw [zIc (by omega)]
  refine ⟨lv, _, _, hL, hT, hW' ρ w _ _ hW hw (fun _ => ⟨hn, fun e => absurd e (by decide), fun _ => ⟨_, rfl, fun j hj => ?_⟩⟩), this⟩
  rw [ht j (Nat.zero_le _) hj]
  unfold upd
  by_cases ej : j = m
  · rw [if_pos ej, if_pos ej]
    exact he
  · rw [if_neg ej, if_neg ej]
    exact hf j hj
theorem zs_len : zS ρ T nx K (fun lv st w => pALen nx lv st w) zq_len := by
  intro kn E L S W v h
  obtain ⟨x, S, rfl, h⟩ := zL0 h
  obtain ⟨a, rfl, h⟩ := zR0 h
  rcases zS2 h with ⟨⟨k, n, t⟩, hc, h⟩ | ⟨z, _, h⟩
  · obtain ⟨hk, h⟩ := zBt h
    have hk2 : k ≤ 2 := pBle hk
    refine .inl ⟨_, _, _, h, fun lv st w hL hT hW => ?_⟩
    obtain ⟨c, st, rfl, ha, hq⟩ := yT_c hT
    clear hT
    have hT := hq
    clear hq
    have ha : c = .ref a := ha
    subst ha
    by_cases h1 : k = 1
    · subst h1
      obtain ⟨hn, f, hw, hf⟩ := yW_l hW hc
      exact ⟨lv, _, w, hL, yT_k ⟨by show n < _; omega, rfl⟩ hT, hW, ps_alen hw hk⟩
    · obtain ⟨hn, f, hw, hf⟩ := yW_i hW hc hk2 h1
      exact ⟨lv, _, w, hL, yT_k ⟨by show n < _; omega, rfl⟩ hT, hW, ps_alen hw hk⟩
  · cases h
theorem zs_newa {k : Nat} : zS ρ T nx K (fun lv st w => pNewA nx [k] lv st w) (zq_newa k) := by
  intro kn E L S W v h
  obtain ⟨x, S, rfl, h⟩ := zL0 h
  obtain ⟨m, rfl, h⟩ := zI0 h
  obtain ⟨hm, h⟩ := zBt h
  have hm : m ≤ 60000000 := pBle hm
  obtain ⟨W', h, hW'⟩ := zNew_ok h
  refine .inl ⟨_, _, _, h, fun lv st w hL hT hW => ?_⟩
  obtain ⟨d, st, rfl, ⟨_, rfl⟩, hq⟩ := yT_c hT
  clear hT
  have hT := hq
  clear hq
  refine ⟨lv, .ref W.2.1 :: st, w ++ [.inl (k, m, pZero k)], hL, yT_k rfl hT, hW' ρ w _ hW (fun hk => ⟨by omega, fun h1 => ?_, fun h1 => ?_⟩), ?_⟩
  · subst h1
    exact ⟨fun _ => 0, rfl, fun j _ => ⟨by decide, rfl⟩⟩
  · have e : Nat.beq k 1 = false := by
      cases e : Nat.beq k 1 with
      | true => exact absurd (pBeq e) h1
      | false => rfl
    unfold pZero zZero
    rw [e]
    exact ⟨fun _ => 0, rfl, fun j _ => ⟨by decide, rfl⟩⟩
  · show pNewA nx [k] lv (.int (Int32.ofNat m) :: st) w = _
    unfold pNewA
    simp only [zIp (show m < 2147483648 by omega), zIc (show m < 2147483648 by omega), Nat.ble_eq_true_of_le hm, decide_false, Bool.not_false, Bool.and_self, cond_true]
    rw [← hW.2.1]
    rfl
def zDf (f : FieldType) : zV := match f with
  | .byte => .inl 0
  | .char => .inl 0
  | .short => .inl 0
  | .boolean => .inl 0
  | .int => .inl 0
  | .long => .inr (.inr (.inl 0))
  | _ => zVd
theorem zDf_ok {f : FieldType} : yV ρ (zDf f) (defaultValue f) := by
  cases f
  case long => exact ⟨by decide, rfl⟩
  case int => exact ⟨by decide, rfl⟩
  case byte => exact ⟨by decide, rfl⟩
  case char => exact ⟨by decide, rfl⟩
  case short => exact ⟨by decide, rfl⟩
  case boolean => exact ⟨by decide, rfl⟩
  all_goals exact trivial
theorem zDfs_ok {g : Nat → FieldType} : ∀ {l : List Nat}, yT ρ (l.map (fun j => zDf (g j))) (l.map (fun j => defaultValue (g j))) := by
  intro l
  induction l with
  | nil => exact trivial
  | cons a l ih => exact ⟨zDf_ok, ih⟩
theorem zs_newo {ci n e : Nat} : zS ρ T nx K (fun lv st w => pNewO nx [ci, n, e] lv st w) (zq_newo ci ((List.range n).map (fun j => zDf (pTf ci j)))) := by
  intro kn E L S W v h
  obtain ⟨W', h, hW'⟩ := zNew_ok h
  refine .inl ⟨_, _, _, h, fun lv st w hL hT hW => ?_⟩
  refine ⟨lv, .ref W.2.1 :: st, w ++ [.inr (ci, (List.range n).map (fun j => defaultValue (pTf ci j)))], hL, yT_k rfl hT, hW' ρ w _ hW ⟨_, rfl, zDfs_ok⟩, ?_⟩
  show pNewO nx [ci, n, e] lv st w = _
  rw [← hW.2.1]
  rfl
-- calls
theorem zs_calls {j n mx : Nat} (hK : K) (hj : j < 357) (hm : mx < 1000) : zS ρ T nx K (fun _ st _ => pCallS j n mx st) (zq_calls j n mx) := by
  intro kn E L S W v h
  obtain ⟨as, S', h, H⟩ := zArgs_ok h
  obtain ⟨h, hc⟩ := zCk_ok h hm
  refine .inr (.inr (.inl ⟨hK, j, as, S', hj, h, fun lv st w hL hT hW => ?_⟩))
  obtain ⟨cas, st', e, ha, hs⟩ := H ρ [] st trivial hT
  obtain ⟨c1, c2⟩ := hc ρ cas st' ha hs
  exact ⟨cas, st', ha, hs, ps_callS e c1 c2⟩
theorem zs_calli {j n ci mx : Nat} (hK : K) (hj : j < 357) (hm : mx < 1000) : zS ρ T nx K (fun _ st w => pCallI j n ci mx st w) (zq_calli j n ci mx) := by
  intro kn E L S W v h
  obtain ⟨as, S', h, H⟩ := zArgs_ok h
  obtain ⟨x, S', rfl, h⟩ := zL0 h
  obtain ⟨a, rfl, h⟩ := zR0 h
  obtain ⟨fs, hf, h⟩ := zC0 h
  obtain ⟨h, hc⟩ := zCk_ok h hm
  refine .inr (.inr (.inl ⟨hK, j, _, S', hj, h, fun lv st w hL hT hW => ?_⟩))
  obtain ⟨cas, st', e, ha, hs⟩ := H ρ [] st trivial hT
  obtain ⟨c, st', rfl, hr, hs2⟩ := yT_c hs
  clear hs
  have hs := hs2
  clear hs2
  have hr : c = .ref a := hr
  subst hr
  obtain ⟨gs, hw, _⟩ := yW_o hW hf
  have ha2 : yT ρ (.inr (.inl a) :: as) (.ref a :: cas) := ⟨rfl, ha⟩
  obtain ⟨c1, c2⟩ := hc ρ (.ref a :: cas) st' ha2 hs
  exact ⟨.ref a :: cas, st', ha2, hs, ps_callI e hw c1 c2⟩
theorem zCt_ok {S : List zV} {r : zR} {x : Option zV × zW} (h : zCt S r = some x) : r = some x ∧ ∀ ρ st, yT ρ S st → Nat.ble (pCat st) 8 = true := by
  obtain ⟨h1, h⟩ := zBt h
  refine ⟨h, fun ρ st hs => ?_⟩
  have g1 := pBle h1
  rw [zCat_ok hs (by omega)]
  exact h1
theorem zs_call0 {pc : Nat} (hn : nx = pc + 3) : zS ρ T nx K (fun lv st w => pNoRef pc lv st w) zq_call0 := by
  subst hn
  intro kn E L S W v h
  obtain ⟨x, S, rfl, h⟩ := zL0 h
  obtain ⟨h, hx⟩ := zTr_ok h
  obtain ⟨h, hc⟩ := zCt_ok h
  refine .inl ⟨_, _, _, h, fun lv st w hL hT hW => ?_⟩
  obtain ⟨c, st, rfl, ha, hq⟩ := yT_c hT
  clear hT
  have hT := hq
  clear hq
  obtain ⟨a, rfl⟩ := hx ρ c ha
  refine ⟨lv, st, w, hL, hT, hW, ?_⟩
  show pOK8 pc lv st w = _
  unfold pOK8
  rw [hc ρ st hT]
  rfl
theorem zs_fill {mx : Nat} (hK : K) (hm : 2 ≤ mx) : zS ρ T nx K (fun _ st _ => pCallS 356 2 mx st) zq_fill := by
  intro kn E L S W v h
  obtain ⟨u, S, rfl, h⟩ := zL0 h
  obtain ⟨y, S, rfl, h⟩ := zL0 h
  obtain ⟨h, hu⟩ := zTi_ok h
  obtain ⟨a, rfl, h⟩ := zR0 h
  obtain ⟨n, t, hc, h⟩ := zA0 h
  obtain ⟨h, hc8⟩ := zCt_ok h
  obtain ⟨W', h, hW'⟩ := zPut_ok h
  refine .inr (.inr (.inr (.inr ⟨hK, _, _, h, fun lv st w hL hT hW => ?_⟩)))
  obtain ⟨e, st, rfl, he, hq⟩ := yT_c hT
  clear hT
  have hT := hq
  clear hq
  obtain ⟨c, st, rfl, ha, hq⟩ := yT_c hT
  clear hT
  have hT := hq
  clear hq
  have ha : c = .ref a := ha
  subst ha
  obtain ⟨i, rfl⟩ := hu ρ e he
  obtain ⟨hn, f, hw, hf⟩ := yW_i hW hc (by decide) (by decide)
  refine ⟨356, [.ref a, .int i], st, none, _, ps_callS rfl (hc8 ρ st hT) (Nat.ble_eq_true_of_le (show 1 + (1 + 0) ≤ mx from hm)), run_fill hw (by omega), hT, hW' ρ w _ _ hW hw (fun _ => ⟨hn, fun e => absurd e (by decide), fun _ => ⟨_, rfl, fun j hj => ?_⟩⟩)⟩
  show yV ρ u (.int (if j < n then i else f j))
  rw [if_pos hj]
  exact he
theorem zs_filll {mx : Nat} (hK : K) (hm : 3 ≤ mx) : zS ρ T nx K (fun _ st _ => pCallS 355 2 mx st) zq_filll := by
  intro kn E L S W v h
  obtain ⟨u, S, rfl, h⟩ := zL0 h
  obtain ⟨y, S, rfl, h⟩ := zL0 h
  obtain ⟨h, hu⟩ := zTl_ok h
  obtain ⟨a, rfl, h⟩ := zR0 h
  obtain ⟨n, t, hc, h⟩ := zA0 h
  obtain ⟨h, hc8⟩ := zCt_ok h
  obtain ⟨W', h, hW'⟩ := zPut_ok h
  refine .inr (.inr (.inr (.inr ⟨hK, _, _, h, fun lv st w hL hT hW => ?_⟩)))
  obtain ⟨e, st, rfl, he, hq⟩ := yT_c hT
  clear hT
  have hT := hq
  clear hq
  obtain ⟨c, st, rfl, ha, hq⟩ := yT_c hT
  clear hT
  have hT := hq
  clear hq
  have ha : c = .ref a := ha
  subst ha
  obtain ⟨i, rfl⟩ := hu ρ e he
  obtain ⟨hn, f, hw, hf⟩ := yW_l hW hc
  refine ⟨355, [.ref a, .long i], st, none, _, ps_callS rfl (hc8 ρ st hT) (Nat.ble_eq_true_of_le (show 1 + (2 + 0) ≤ mx from hm)), run_fillL hw (by omega), hT, hW' ρ w _ _ hW hw (fun _ => ⟨hn, fun _ => ⟨_, rfl, fun j hj => ?_⟩, fun e => absurd rfl e⟩)⟩
  show yV ρ u (.long (if j < n then i else f j))
  rw [if_pos hj]
  exact he
theorem zs_cpall {mx : Nat} (hK : K) (hm : 2 ≤ mx) : zS ρ T nx K (fun _ st _ => pCallS 187 2 mx st) zq_cpall := by
  intro kn E L S W v h
  obtain ⟨y, S, rfl, h⟩ := zL0 h
  obtain ⟨x, S, rfl, h⟩ := zL0 h
  obtain ⟨b, rfl, h⟩ := zR0 h
  obtain ⟨a, rfl, h⟩ := zR0 h
  obtain ⟨hab, h⟩ := zBf h
  have hab := nbeqf hab
  obtain ⟨n, t, hc, h⟩ := zA0 h
  obtain ⟨n', t', hc', h⟩ := zA0 h
  obtain ⟨h2, h⟩ := zBt h
  obtain ⟨h1, h⟩ := zBt h
  have h1 : n' = 37340 := pBeq h1
  have h2 : n = 37340 := pBeq h2
  subst h1
  subst h2
  obtain ⟨h, hc8⟩ := zCt_ok h
  obtain ⟨W', h, hW'⟩ := zPut_ok h
  refine .inr (.inr (.inr (.inr ⟨hK, _, _, h, fun lv st w hL hT hW => ?_⟩)))
  obtain ⟨d, st, rfl, hb, hq⟩ := yT_c hT
  clear hT
  have hT := hq
  clear hq
  obtain ⟨c, st, rfl, ha, hq⟩ := yT_c hT
  clear hT
  have hT := hq
  clear hq
  have ha : c = .ref a := ha
  have hb : d = .ref b := hb
  subst ha
  subst hb
  obtain ⟨hn, f, hw, hf⟩ := yW_i hW hc (by decide) (by decide)
  obtain ⟨hn', g, hw', hg⟩ := yW_i hW hc' (by decide) (by decide)
  refine ⟨187, [.ref a, .ref b], st, none, _, ps_callS rfl (hc8 ρ st hT) (Nat.ble_eq_true_of_le (show 1 + (1 + 0) ≤ mx from hm)), run_copy hw hw' hab (by decide) (by decide) (by decide) (by decide), hT, hW' ρ w _ _ hW hw' (fun _ => ⟨hn', fun e => absurd e (by decide), fun _ => ⟨_, rfl, fun j hj => ?_⟩⟩)⟩
  show yV ρ (t.get j) (.int (if j < 37340 then f j else g j))
  rw [if_pos hj]
  exact hf j hj
theorem zFc_ok {v : zV} {f : zV → zR} {x : Option zV × zW} (h : zFc v f = some x) : f v = some x := by
  rcases v with n | z <;> exact h
theorem zCpy_ok {t : Lean.RArray zV} {sp dp hi : Nat} : ∀ {n : Nat} {u : Lean.RArray zV} {c : Lean.RArray zV → zR} {x : Option zV × zW}, zCpy t sp dp hi n u c = some x → ∃ u', c u' = some x ∧ ∀ j, j < hi → u'.get j = if dp ≤ j ∧ j < dp + n then t.get (sp + (j - dp)) else u.get j := by
  intro n
  induction n with
  | zero =>
    intro u c x h
    exact ⟨u, h, fun j hj => by rw [if_neg (by omega)]⟩
  | succ n ih =>
    intro u c x h
    have h := zFc_ok (f := fun v => zSetA (dp + n) v u 0 hi (fun u => zCpy t sp dp hi n u c)) h
    obtain ⟨u1, h, h1⟩ := zSetA_ok h
    obtain ⟨u2, h, h2⟩ := ih h
    refine ⟨u2, h, fun j hj => ?_⟩
    rw [h2 j hj]
    by_cases e : dp ≤ j ∧ j < dp + n
    · rw [if_pos e, if_pos (by omega)]
    · rw [if_neg e, h1 j (Nat.zero_le _) hj]
      by_cases e2 : j = dp + n
      · rw [if_pos e2, if_pos (by omega), show j - dp = n by omega]
      · rw [if_neg e2, if_neg (by omega)]
theorem zs_copy {pc : Nat} (hn : nx = pc + 3) : zS ρ T nx K (fun lv st w => pCopy pc lv st w) zq_copy := by
  subst hn
  intro kn E L S W v h
  obtain ⟨x, S, rfl, h⟩ := zL0 h
  obtain ⟨n, rfl, h⟩ := zI0 h
  obtain ⟨x, S, rfl, h⟩ := zL0 h
  obtain ⟨dp, rfl, h⟩ := zI0 h
  obtain ⟨x, S, rfl, h⟩ := zL0 h
  obtain ⟨b, rfl, h⟩ := zR0 h
  obtain ⟨x, S, rfl, h⟩ := zL0 h
  obtain ⟨sp, rfl, h⟩ := zI0 h
  obtain ⟨x, S, rfl, h⟩ := zL0 h
  obtain ⟨a, rfl, h⟩ := zR0 h
  rcases zS2 h with ⟨⟨k0, n0, t0⟩, hc0, h⟩ | ⟨_, _, h⟩
  · rcases zS2 h with ⟨⟨k1, n1, t1⟩, hc1, h⟩ | ⟨_, _, h⟩
    · obtain ⟨g1, h⟩ := zBt h
      obtain ⟨g2, h⟩ := zBt h
      obtain ⟨g3, h⟩ := zBt h
      obtain ⟨g4, h⟩ := zBt h
      have g1 : k0 = k1 := pBeq g1
      have g2 : k0 ≤ 1 := pBle g2
      have G3 : sp + n ≤ n0 := pBle g3
      have G4 : dp + n ≤ n1 := pBle g4
      subst g1
      obtain ⟨h, hc8⟩ := zCt_ok h
      obtain ⟨t', h, ht⟩ := zCpy_ok h
      obtain ⟨W', h, hW'⟩ := zPut_ok h
      refine .inl ⟨_, _, _, h, fun lv st w hL hT hW => ?_⟩
      obtain ⟨c1, st, rfl, ⟨_, rfl⟩, hq⟩ := yT_c hT
      clear hT
      have hT := hq
      clear hq
      obtain ⟨c2, st, rfl, ⟨_, rfl⟩, hq⟩ := yT_c hT
      clear hT
      have hT := hq
      clear hq
      obtain ⟨c3, st, rfl, hb, hq⟩ := yT_c hT
      clear hT
      have hT := hq
      clear hq
      obtain ⟨c4, st, rfl, ⟨_, rfl⟩, hq⟩ := yT_c hT
      clear hT
      have hT := hq
      clear hq
      obtain ⟨c5, st, rfl, ha, hq⟩ := yT_c hT
      clear hT
      have hT := hq
      clear hq
      have ha : c5 = .ref a := ha
      have hb : c3 = .ref b := hb
      subst ha
      subst hb
      have k01 : k0 = 0 ∨ k0 = 1 := by omega
      rcases k01 with rfl | rfl
      · obtain ⟨hn0, f, hw0, hf⟩ := yW_i hW hc0 (by decide) (by decide)
        obtain ⟨hn1, g, hw1, hg⟩ := yW_i hW hc1 (by decide) (by decide)
        refine ⟨lv, st, _, hL, hT, hW' ρ w _ _ hW hw1 (fun _ => ⟨hn1, fun e => absurd (show (0 : Nat) = 1 from e) (by decide), fun _ => ⟨va_cpy f g sp dp n, rfl, fun j hj => ?_⟩⟩), ?_⟩
        · rw [ht j hj]
          unfold va_cpy
          by_cases e : dp ≤ j ∧ j < dp + n
          · rw [if_pos e, if_pos e]
            exact hf _ (by omega)
          · rw [if_neg e, if_neg e]
            exact hg j hj
        · show pCopy pc lv (.int (Int32.ofNat n) :: .int (Int32.ofNat dp) :: .ref b :: .int (Int32.ofNat sp) :: .ref a :: st) w = _
          unfold pCopy
          simp only [hw0, hw1, zIp (show sp < 2147483648 by omega), zIp (show dp < 2147483648 by omega), zIp (show n < 2147483648 by omega), zIc (show sp < 2147483648 by omega), zIc (show dp < 2147483648 by omega), zIc (show n < 2147483648 by omega), Nat.ble_eq_true_of_le G3, Nat.ble_eq_true_of_le G4, decide_false, Bool.not_false, Nat.beq_refl, Bool.and_self, cond_true]
          unfold pOK8
          rw [hc8 ρ st hT]
          rfl
      · obtain ⟨hn0, f, hw0, hf⟩ := yW_l hW hc0
        obtain ⟨hn1, g, hw1, hg⟩ := yW_l hW hc1
        refine ⟨lv, st, _, hL, hT, hW' ρ w _ _ hW hw1 (fun _ => ⟨hn1, fun _ => ⟨va_cpy f g sp dp n, rfl, fun j hj => ?_⟩, fun e => absurd (show (1 : Nat) = 1 from rfl) e⟩), ?_⟩
        · rw [ht j hj]
          unfold va_cpy
          by_cases e : dp ≤ j ∧ j < dp + n
          · rw [if_pos e, if_pos e]
            exact hf _ (by omega)
          · rw [if_neg e, if_neg e]
            exact hg j hj
        · show pCopy pc lv (.int (Int32.ofNat n) :: .int (Int32.ofNat dp) :: .ref b :: .int (Int32.ofNat sp) :: .ref a :: st) w = _
          unfold pCopy
          simp only [hw0, hw1, zIp (show sp < 2147483648 by omega), zIp (show dp < 2147483648 by omega), zIp (show n < 2147483648 by omega), zIc (show sp < 2147483648 by omega), zIc (show dp < 2147483648 by omega), zIc (show n < 2147483648 by omega), Nat.ble_eq_true_of_le G3, Nat.ble_eq_true_of_le G4, decide_false, Bool.not_false, Nat.beq_refl, Bool.and_self, cond_true]
          unfold pOK8
          rw [hc8 ρ st hT]
          rfl
    · cases h
  · cases h
-- returns
theorem zs_iret0 : zS ρ T nx K (fun _ st _ => pIret [0] st) (zq_iret 0) := by
  intro kn E L S W v h
  obtain ⟨x, S, rfl, h⟩ := zL0 h
  obtain ⟨rfl, h⟩ := zL1 h
  obtain ⟨h, hx⟩ := zTi_ok h
  refine .inr (.inr (.inr (.inl ⟨_, h, fun lv st w hL hT hW => ?_⟩)))
  obtain ⟨c, st, rfl, hc, hq⟩ := yT_c hT
  clear hT
  have hT := hq
  clear hq
  obtain ⟨i, rfl⟩ := hx ρ c hc
  rw [yT_n hT]
  exact ⟨some (.int i), hc, rfl⟩
theorem zs_iret1 : zS ρ T nx K (fun _ st _ => pIret [1] st) (zq_iret 1) := by
  intro kn E L S W v h
  obtain ⟨x, S, rfl, h⟩ := zL0 h
  obtain ⟨rfl, h⟩ := zL1 h
  obtain ⟨n, rfl, h⟩ := zI0 h
  obtain ⟨hn, h⟩ := zBt h
  have hn : n ≤ 1 := pBle hn
  refine .inr (.inr (.inr (.inl ⟨_, h, fun lv st w hL hT hW => ?_⟩)))
  obtain ⟨c, st, rfl, ⟨hc, rfl⟩, hq⟩ := yT_c hT
  clear hT
  have hT := hq
  clear hq
  rw [yT_n hT]
  refine ⟨some (.int (Int32.ofNat n)), ⟨hc, rfl⟩, ?_⟩
  have : n = 0 ∨ n = 1 := by omega
  rcases this with rfl | rfl <;> rfl
theorem zs_lret : zS ρ T nx K (fun _ st _ => pLret st) zq_lret := by
  intro kn E L S W v h
  obtain ⟨x, S, rfl, h⟩ := zL0 h
  obtain ⟨rfl, h⟩ := zL1 h
  obtain ⟨h, hx⟩ := zTl_ok h
  refine .inr (.inr (.inr (.inl ⟨_, h, fun lv st w hL hT hW => ?_⟩)))
  obtain ⟨c, st, rfl, hc, hq⟩ := yT_c hT
  clear hT
  have hT := hq
  clear hq
  obtain ⟨i, rfl⟩ := hx ρ c hc
  rw [yT_n hT]
  exact ⟨some (.long i), hc, rfl⟩
theorem zs_vret : zS ρ T nx K (fun _ st _ => pVret st) zq_vret := by
  intro kn E L S W v h
  obtain ⟨rfl, h⟩ := zL1 h
  refine .inr (.inr (.inr (.inl ⟨none, h, fun lv st w hL hT hW => ?_⟩)))
  rw [yT_n hT]
  exact ⟨none, trivial, rfl⟩
end LEAF2
