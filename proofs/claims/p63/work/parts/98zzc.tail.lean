/-! THE LAW: what a turn ends with, piece by piece. Rows laid by program (wip/p63/wk.py, hw.py, lawcase.py, mk98zzc.py). -/
theorem l_tail0 {w : pW} {b c k n ws aw s : Nat} {Φ : Option Value → pW → Prop} (KK : qE 158 (1611, [(5, .int (iI (k : Int))), (4, .int (iI (n : Int))), (3, .ref ws), (2, .ref aw), (1, .ref b), (0, .ref s)], [], w) Φ) : qE 158 (1559, [(9, .int (iI 0)), (8, .ref c), (5, .int (iI (k : Int))), (4, .int (iI (n : Int))), (3, .ref ws), (2, .ref aw), (1, .ref b), (0, .ref s)], [], w) Φ := by
  refine pe_go (pc := 1559) rfl (s_iload rfl) ?_
  refine pe_go rfl (s_if_eq_t ⟨by decide, by decide⟩ (by decide)) ?_
  refine pe_few (lv := [(5, .int (iI (k : Int))), (4, .int (iI (n : Int))), (3, .ref ws), (2, .ref aw), (1, .ref b), (0, .ref s)]) rfl rfl (by intro q hq; simp only [List.mem_cons, List.not_mem_nil, or_false] at hq; rcases hq with rfl | rfl | rfl | rfl | rfl | rfl <;> rfl) ?_
  exact KK
theorem l_tail1 {w : pW} {b c k n ws aw s : Nat} {Φ : Option Value → pW → Prop} (hn : n < 20) (KK : qE 158 (1604, [(9, .int (iI 1)), (8, .ref c), (5, .int (iI (k : Int))), (4, .int (iI (n : Int))), (3, .ref ws), (2, .ref aw), (1, .ref b), (0, .ref s)], [.ref aw, .int (iI (n : Int)), .ref ws], w) Φ) : qE 158 (1559, [(9, .int (iI 1)), (8, .ref c), (5, .int (iI (k : Int))), (4, .int (iI (n : Int))), (3, .ref ws), (2, .ref aw), (1, .ref b), (0, .ref s)], [], w) Φ := by
  refine pe_go (pc := 1559) rfl (s_iload rfl) ?_
  refine pe_go rfl (s_if_eq_f ⟨by decide, by decide⟩ (by decide)) ?_
  refine pe_go (pc := 1564) rfl (s_iload rfl) ?_
  refine pe_go (pc := 1566) rfl (s_bipush (z := 20) rfl) ?_
  refine pe_go rfl (s_icmp_ne_t ⟨by omega, by omega⟩ ⟨by decide, by decide⟩ (by omega)) ?_
  refine pe_go (pc := 1600) rfl (s_aload_n rfl) ?_
  refine pe_go (pc := 1601) rfl (s_iload rfl) ?_
  refine pe_go (pc := 1603) rfl (s_aload_n rfl) ?_
  refine pe_few (lv := [(9, .int (iI 1)), (8, .ref c), (5, .int (iI (k : Int))), (4, .int (iI (n : Int))), (3, .ref ws), (2, .ref aw), (1, .ref b), (0, .ref s)]) rfl rfl (by intro q hq; simp only [List.mem_cons, List.not_mem_nil, or_false] at hq; rcases hq with rfl | rfl | rfl | rfl | rfl | rfl | rfl | rfl <;> rfl) ?_
  exact KK
theorem l_tail2 {w : pW} {b c k ws aw s : Nat} {Φ : Option Value → pW → Prop} (KK : qE 158 (1574, [(17, .int (iI ((1 : Nat) : Int))), (9, .int (iI 1)), (8, .ref c), (5, .int (iI (k : Int))), (4, .int (iI ((20 : Nat) : Int))), (3, .ref ws), (2, .ref aw), (1, .ref b), (0, .ref s)], [], w) Φ) : qE 158 (1559, [(9, .int (iI 1)), (8, .ref c), (5, .int (iI (k : Int))), (4, .int (iI ((20 : Nat) : Int))), (3, .ref ws), (2, .ref aw), (1, .ref b), (0, .ref s)], [], w) Φ := by
  refine pe_go (pc := 1559) rfl (s_iload rfl) ?_
  refine pe_go rfl (s_if_eq_f ⟨by decide, by decide⟩ (by decide)) ?_
  refine pe_go (pc := 1564) rfl (s_iload rfl) ?_
  refine pe_go (pc := 1566) rfl (s_bipush (z := 20) rfl) ?_
  refine pe_go rfl (s_icmp_ne_f ⟨by omega, by omega⟩ ⟨by decide, by decide⟩ (fun e => e rfl)) ?_
  refine pe_go (pc := 1571) rfl (s_iconst (z := 1) rfl) ?_
  refine pe_go (pc := 1572) rfl (s_istore (lv' := [(17, .int (iI 1)), (9, .int (iI 1)), (8, .ref c), (5, .int (iI (k : Int))), (4, .int (iI ((20 : Nat) : Int))), (3, .ref ws), (2, .ref aw), (1, .ref b), (0, .ref s)]) rfl) ?_
  refine pe_few (lv := [(17, .int (iI ((1 : Nat) : Int))), (9, .int (iI 1)), (8, .ref c), (5, .int (iI (k : Int))), (4, .int (iI ((20 : Nat) : Int))), (3, .ref ws), (2, .ref aw), (1, .ref b), (0, .ref s)]) rfl rfl (by intro q hq; simp only [List.mem_cons, List.not_mem_nil, or_false] at hq; rcases hq with rfl | rfl | rfl | rfl | rfl | rfl | rfl | rfl | rfl <;> rfl) ?_
  exact KK
theorem l_tail1597 {w : pW} {b c k ws aw s : Nat} {Φ : Option Value → pW → Prop} (KK : qE 158 (1604, [(9, .int (iI 1)), (8, .ref c), (5, .int (iI (k : Int))), (4, .int (iI ((19 : Nat) : Int))), (3, .ref ws), (2, .ref aw), (1, .ref b), (0, .ref s)], [.ref aw, .int (iI ((19 : Nat) : Int)), .ref ws], w) Φ) : qE 158 (1597, [(9, .int (iI 1)), (8, .ref c), (5, .int (iI (k : Int))), (4, .int (iI ((20 : Nat) : Int))), (3, .ref ws), (2, .ref aw), (1, .ref b), (0, .ref s)], [], w) Φ := by
  refine pe_go (pc := 1597) rfl (s_iinc (x := ((20 : Nat) : Int)) (y := ((20 : Nat) : Int) + (-1)) rfl (by omega) (lv' := [(4, .int (iI (((20 : Nat) : Int) + (-1)))), (9, .int (iI 1)), (8, .ref c), (5, .int (iI (k : Int))), (3, .ref ws), (2, .ref aw), (1, .ref b), (0, .ref s)]) rfl) ?_
  rw [show ((20 : Nat) : Int) + -1 = ((19 : Nat) : Int) from rfl]
  refine pe_go (pc := 1600) rfl (s_aload_n rfl) ?_
  refine pe_go (pc := 1601) rfl (s_iload rfl) ?_
  refine pe_go (pc := 1603) rfl (s_aload_n rfl) ?_
  refine pe_few (lv := [(9, .int (iI 1)), (8, .ref c), (5, .int (iI (k : Int))), (4, .int (iI ((19 : Nat) : Int))), (3, .ref ws), (2, .ref aw), (1, .ref b), (0, .ref s)]) rfl rfl (by intro q hq; simp only [List.mem_cons, List.not_mem_nil, or_false] at hq; rcases hq with rfl | rfl | rfl | rfl | rfl | rfl | rfl | rfl <;> rfl) ?_
  exact KK
theorem l_tail1605 {w : pW} {b c k n ws aw s : Nat} {Φ : Option Value → pW → Prop} (KK : qE 158 (1611, [(5, .int (iI (k : Int))), (4, .int (iI ((n + 1 : Nat) : Int))), (3, .ref ws), (2, .ref c), (1, .ref b), (0, .ref s)], [], w) Φ) : qE 158 (1605, [(9, .int (iI 1)), (8, .ref c), (5, .int (iI (k : Int))), (4, .int (iI (n : Int))), (3, .ref ws), (2, .ref aw), (1, .ref b), (0, .ref s)], [], w) Φ := by
  refine pe_go (pc := 1605) rfl (s_iinc (x := (n : Int)) (y := ((n + 1 : Nat) : Int)) rfl (by omega) (lv' := [(4, .int (iI ((n + 1 : Nat) : Int))), (9, .int (iI 1)), (8, .ref c), (5, .int (iI (k : Int))), (3, .ref ws), (2, .ref aw), (1, .ref b), (0, .ref s)]) rfl) ?_
  refine pe_go (pc := 1608) rfl (s_aload rfl) ?_
  refine pe_go (pc := 1610) rfl (s_astore_n (lv' := [(2, .ref c), (4, .int (iI ((n + 1 : Nat) : Int))), (9, .int (iI 1)), (8, .ref c), (5, .int (iI (k : Int))), (3, .ref ws), (1, .ref b), (0, .ref s)]) rfl) ?_
  refine pe_few (lv := [(5, .int (iI (k : Int))), (4, .int (iI ((n + 1 : Nat) : Int))), (3, .ref ws), (2, .ref c), (1, .ref b), (0, .ref s)]) rfl rfl (by intro q hq; simp only [List.mem_cons, List.not_mem_nil, or_false] at hq; rcases hq with rfl | rfl | rfl | rfl | rfl | rfl <;> rfl) ?_
  exact KK
theorem l_wshift {b c k ws aw s : Nat} {Φ : Option Value → pW → Prop} {wf : Nat → Option Nat} {P : pW → Prop} (KK : ∀ (w : pW) (gg : Nat → Option Nat), P w → w[ws]? = some (.inl (5, 40, rfs gg)) → (∀ j : Nat, j < 19 → gg j = wf (j + 1)) → qE 158 (1597, [(9, .int (iI 1)), (8, .ref c), (5, .int (iI (k : Int))), (4, .int (iI ((20 : Nat) : Int))), (3, .ref ws), (2, .ref aw), (1, .ref b), (0, .ref s)], [], w) Φ) (hP2 : ∀ (w : pW) (f gg : Nat → Option Nat), P w → w[ws]? = some (.inl (5, 40, rfs f)) → P (w.set ws (.inl (5, 40, rfs gg)))) (hob : ∀ (w : pW) (i : Nat), P w → i < 20 → ∃ (ai : Nat) (fs : List Value), wf i = some ai ∧ w[ai]? = some (.inr (9, fs))) : ∀ (d i : Nat) (w : pW) (gg : Nat → Option Nat), i + d = 20 → 1 ≤ i → P w → w[ws]? = some (.inl (5, 40, rfs gg)) → (∀ j : Nat, j + 1 < i → gg j = wf (j + 1)) → (∀ j : Nat, i ≤ j + 1 → j < 20 → gg j = wf j) → qE 158 (1574, [(17, .int (iI (i : Int))), (9, .int (iI 1)), (8, .ref c), (5, .int (iI (k : Int))), (4, .int (iI ((20 : Nat) : Int))), (3, .ref ws), (2, .ref aw), (1, .ref b), (0, .ref s)], [], w) Φ := by
  intro d
  induction d with
  | zero =>
    intro i w gg hi h1 hp hws h2 h3
    have ei : i = 20 := by omega
    subst ei
    refine pe_go (pc := 1574) rfl (s_iload rfl) ?_
    refine pe_go (pc := 1576) rfl (s_iload rfl) ?_
    refine pe_go rfl (s_icmp_ge_t ⟨by omega, by omega⟩ ⟨by omega, by omega⟩ (Int.le_refl _)) ?_
    refine pe_few (lv := [(9, .int (iI 1)), (8, .ref c), (5, .int (iI (k : Int))), (4, .int (iI ((20 : Nat) : Int))), (3, .ref ws), (2, .ref aw), (1, .ref b), (0, .ref s)]) rfl rfl (by intro q hq; simp only [List.mem_cons, List.not_mem_nil, or_false] at hq; rcases hq with rfl | rfl | rfl | rfl | rfl | rfl | rfl | rfl <;> rfl) ?_
    exact KK w gg hp hws (fun j hj => h2 j (by omega))
  | succ d ih =>
    intro i w gg hi h1 hp hws h2 h3
    obtain ⟨ai, fs, e1, e2⟩ := hob w i hp (by omega)
    have e3 : gg i = some ai := (h3 i (by omega) (by omega)).trans e1
    refine pe_go (pc := 1574) rfl (s_iload rfl) ?_
    refine pe_go (pc := 1576) rfl (s_iload rfl) ?_
    refine pe_go rfl (s_icmp_ge_f ⟨by omega, by omega⟩ ⟨by omega, by omega⟩ (by omega)) ?_
    refine pe_go (pc := 1581) rfl (s_aload_n rfl) ?_
    refine pe_go (pc := 1582) rfl (s_iload rfl) ?_
    refine pe_go (pc := 1584) rfl (s_iconst (z := 1) rfl) ?_
    refine pe_go (pc := 1585) rfl s_isub ?_
    refine pe_go (pc := 1586) rfl (s_aload_n rfl) ?_
    refine pe_go (pc := 1587) rfl (s_iload rfl) ?_
    refine pe_go (pc := 1589) rfl (s_aald hws (k := i) (by omega) (by omega) e3) ?_
    rw [show (i : Int) - 1 = ((i - 1 : Nat) : Int) by omega]
    refine pe_go (pc := 1590) rfl (s_aast (kd := 5) (k := i - 1) hws (by rw [e2]; rfl) rfl ⟨by omega, by decide⟩ rfl) ?_
    refine pe_go (pc := 1591) rfl (s_iinc (x := (i : Int)) (y := ((i + 1 : Nat) : Int)) rfl (by omega) (lv' := [(17, .int (iI ((i + 1 : Nat) : Int))), (9, .int (iI 1)), (8, .ref c), (5, .int (iI (k : Int))), (4, .int (iI ((20 : Nat) : Int))), (3, .ref ws), (2, .ref aw), (1, .ref b), (0, .ref s)]) rfl) ?_
    refine pe_go (pc := 1594) rfl s_goto ?_
    refine ih (i + 1) _ (va_up gg (i - 1) (some ai)) (by omega) (by omega) (hP2 w gg _ hp hws) (set_at hws) (fun j hj => ?_) (fun j hj hj2 => ?_)
    · by_cases e : j = i - 1
      · rw [e, vaU_at, show i - 1 + 1 = i by omega, e1]
      · rw [vaU_ne e]; exact h2 j (by omega)
    · rw [vaU_ne (by omega)]; exact h3 j (by omega) hj2
theorem l_t1611 {w : pW} {b k n ws aw s : Nat} {Φ : Option Value → pW → Prop} {S : St} {L M : List St} {K : St} (hk : obk w b S L M K) {O Q : Nat → Prop} {X : Sh} (hw : shAt w O Q aw X) (hR : Rel S X) (hD : ∀ i : Nat, inO b i → ¬ O i ∧ ¬ Q i) (hn : n = L.length) (hL : L.length ≤ 40) (KK : ∀ w' : pW, obk w' b S L M K → agr (inO b) w w' → gro 757 3835 w w' → qE 158 (38, [(5, .int (iI ((k + 1 : Nat) : Int))), (4, .int (iI (n : Int))), (3, .ref ws), (2, .ref aw), (1, .ref b), (0, .ref s)], [], w') Φ) : qE 158 (1611, [(5, .int (iI (k : Int))), (4, .int (iI (n : Int))), (3, .ref ws), (2, .ref aw), (1, .ref b), (0, .ref s)], [], w) Φ := by
  obtain ⟨fb, hbo⟩ := obk_obj hk
  subst hn
  refine pe_go (pc := 1611) rfl (s_aload_n rfl) ?_
  refine pe_go (pc := 1612) rfl (s_aload_n rfl) ?_
  refine pe_callE rfl (s_invS rfl rfl rfl) (k_same hk hw hR hD) ?_
  rintro _ w1 ⟨rfl, ho1, hA1, hg1⟩
  obtain ⟨fb2, hbo2⟩ := obk_obj ho1
  refine pe_go rfl (s_ifeq_true rfl) ?_
  refine pe_go (pc := 1619) rfl (s_aload_n rfl) ?_
  refine pe_call rfl (s_invV rfl hbo2 rfl rfl) (k_steps ho1) ?_
  refine pe_go (pc := 1623) rfl (s_iload rfl) ?_
  refine pe_go rfl (s_icmp_eq_t ⟨by omega, by omega⟩ ⟨by omega, by omega⟩ rfl) ?_
  refine pe_go (pc := 1630) rfl (s_iinc (x := (k : Int)) (y := ((k + 1 : Nat) : Int)) rfl (by omega) (lv' := [(5, .int (iI ((k + 1 : Nat) : Int))), (4, .int (iI ((List.length L : Nat) : Int))), (3, .ref ws), (2, .ref aw), (1, .ref b), (0, .ref s)]) rfl) ?_
  refine pe_go (pc := 1633) rfl s_goto ?_
  refine pe_few (lv := [(5, .int (iI ((k + 1 : Nat) : Int))), (4, .int (iI ((List.length L : Nat) : Int))), (3, .ref ws), (2, .ref aw), (1, .ref b), (0, .ref s)]) rfl rfl (by intro q hq; simp only [List.mem_cons, List.not_mem_nil, or_false] at hq; rcases hq with rfl | rfl | rfl | rfl | rfl | rfl <;> rfl) ?_
  exact KK _ ho1 hA1 hg1
