/-! THE LAW: one turn: refined, drawn. Rows laid by program (wip/p63/wk.py, hw.py, lawcase.py, mk98zr.py). -/
theorem l_case8 {w : pW} {b n0 : Nat} (hbn : b + 57 ≤ n0) {S : St} {L M : List St} {K : St} (hk : obk w b S L M K) {c : Nat} {X : Sh} (hu : shAt w (fun i => n0 ≤ i) (fun i => ¬ inO b i) c X) (hR : Rel S X) (hlw : n0 ≤ w.length) {k n ws aw s : Nat} {x y px py grid what : Int} {Φ : Option Value → pW → Prop} {p q inn : Int} (hy0 : 0 ≤ y ∧ y < 2147483648) (KKd : ∀ (w' : pW) (S' : St) (X' : Sh), obk w' b S' (pshL S L) M K → Rel S' X' → shAt w' (fun i => n0 ≤ i) (fun i => ¬ inO b i) c X' → agr (fun i => inO b i ∨ n0 ≤ i) w w' → gro 2000 (2 * pwsz (nP 0) + 12000) w w' → qE 158 (1559, [(9, .int (iI 1)), (8, .ref c), (5, .int (iI (k : Int))), (4, .int (iI (n : Int))), (3, .ref ws), (2, .ref aw), (1, .ref b), (0, .ref s)], [], w') Φ) : qE 158 (907, [(16, .int (iI inn)), (15, .int (iI what)), (14, .int (iI q)), (13, .int (iI p)), (12, .int (iI py)), (11, .int (iI px)), (10, .int (iI grid)), (9, .int (iI 1)), (8, .ref c), (7, .int (iI y)), (6, .int (iI x)), (5, .int (iI (k : Int))), (4, .int (iI (n : Int))), (3, .ref ws), (2, .ref aw), (1, .ref b), (0, .ref s)], [], w) Φ := by
  have hko := obk_ok hk
  have hIn := hR.In hko
  have hX9 := hIn.1
  obtain ⟨fb, hbo⟩ := obk_obj hk
  obtain ⟨fc, hco⟩ := sh_obj hu
  have hfs := Sh.free_sm X
  have has := Sh.at_sm X px py
  obtain ⟨m9, hm9⟩ := Int.eq_ofNat_of_zero_le (show 0 ≤ 1 + y % 3 by omega)
  have hm8 : 1 ≤ m9 ∧ m9 ≤ 3 := by omega
  refine pe_go (pc := 907) rfl (s_iconst (z := 1) rfl) ?_
  refine pe_go (pc := 908) rfl (s_iload rfl) ?_
  refine pe_go (pc := 910) rfl (s_iconst (z := 3) rfl) ?_
  refine pe_go (pc := 911) rfl (s_irem ⟨by omega, by omega⟩ ⟨by decide, by decide⟩ (by decide) (by omega) (Int.tmod_eq_emod_of_nonneg (by omega))) ?_
  refine pe_go (pc := 912) rfl s_iadd ?_
  rw [hm9]
  refine pe_go (pc := 913) rfl (s_istore (lv' := [(17, .int (iI (m9 : Int))), (16, .int (iI inn)), (15, .int (iI what)), (14, .int (iI q)), (13, .int (iI p)), (12, .int (iI py)), (11, .int (iI px)), (10, .int (iI grid)), (9, .int (iI 1)), (8, .ref c), (7, .int (iI y)), (6, .int (iI x)), (5, .int (iI (k : Int))), (4, .int (iI (n : Int))), (3, .ref ws), (2, .ref aw), (1, .ref b), (0, .ref s)]) rfl) ?_
  refine pe_go (pc := 915) rfl (s_aload_n rfl) ?_
  refine pe_go (pc := 916) rfl (s_aload rfl) ?_
  refine pe_go (pc := 918) rfl (s_iload rfl) ?_
  refine pe_callE rfl (s_invS rfl rfl rfl) (w_refines hk hu hR (fun i z z2 => by have := z2.2; omega) (fun i z => ⟨fun z2 => by have := z.2; have z2 : n0 ≤ i := z2; omega, fun z2 => z2 z⟩) (many := m9) hm8.1 (by omega)) ?_
  rintro _ w1 ⟨c1, S1, X1, hb1, rfl, ho1, hr1, hs1, hA1, hg1⟩
  refine pe_go (pc := 923) rfl (s_istore (lv' := [(18, .int (iI (c1 : Int))), (17, .int (iI (m9 : Int))), (16, .int (iI inn)), (15, .int (iI what)), (14, .int (iI q)), (13, .int (iI p)), (12, .int (iI py)), (11, .int (iI px)), (10, .int (iI grid)), (9, .int (iI 1)), (8, .ref c), (7, .int (iI y)), (6, .int (iI x)), (5, .int (iI (k : Int))), (4, .int (iI (n : Int))), (3, .ref ws), (2, .ref aw), (1, .ref b), (0, .ref s)]) rfl) ?_
  refine pe_go (pc := 925) rfl (s_iload rfl) ?_
  refine pe_go rfl (s_if_ge_t ⟨by omega, by omega⟩ (by omega)) ?_
  refine pe_go (pc := 932) rfl s_goto ?_
  refine pe_few (lv := [(9, .int (iI 1)), (8, .ref c), (5, .int (iI (k : Int))), (4, .int (iI (n : Int))), (3, .ref ws), (2, .ref aw), (1, .ref b), (0, .ref s)]) rfl rfl (by intro q hq; simp only [List.mem_cons, List.not_mem_nil, or_false] at hq; rcases hq with rfl | rfl | rfl | rfl | rfl | rfl | rfl | rfl <;> rfl) ?_
  exact KKd _ _ _ ho1 hr1 hs1 (agr_mono hA1 (fun _ z => z.symm)) (gro_mono hg1 (by omega) (by omega))
/-- the law's sheet draws points -/
def drawX (v : Int) : Nat → Sh → Nat → Sh → Nat → Prop
  | 0, X, c, X', c' => X' = X ∧ c' = c
  | n + 1, X, c, X', c' => (∃ k : Nat, k < 40 ∧ ((X.uG (dnx X.2.2.2)).uG (dnx (dnx X.2.2.2))).free = (k : Int) ∧ (0 ≤ ((X.uG (dnx X.2.2.2)).uG (dnx (dnx X.2.2.2))).free ∧ ((X.uG (dnx X.2.2.2)).uG (dnx (dnx X.2.2.2))).at (dvl X.2.2.2 v) (dvl (dnx X.2.2.2) v) < 0) ∧ drawX v n (((X.uG (dnx X.2.2.2)).uG (dnx (dnx X.2.2.2))).lays k (dvl X.2.2.2 v) (dvl (dnx X.2.2.2) v) 0) (c + 1) X' c') ∨ (¬ (0 ≤ ((X.uG (dnx X.2.2.2)).uG (dnx (dnx X.2.2.2))).free ∧ ((X.uG (dnx X.2.2.2)).uG (dnx (dnx X.2.2.2))).at (dvl X.2.2.2 v) (dvl (dnx X.2.2.2) v) < 0) ∧ drawX v n ((X.uG (dnx X.2.2.2)).uG (dnx (dnx X.2.2.2))) c X' c')
theorem draw_two {v : Int} (hv : 1 ≤ v) (hv2 : v ≤ 1000) : ∀ (n : Nat) {S : St} {X : Sh} {c : Nat} {S' : St} {X' : Sh} {c1 c2 : Nat}, Rel S X → S.Ok → drawR v n S c S' c1 → drawX v n X c X' c2 → c1 = c2 ∧ Rel S' X' := by
  intro n
  induction n with
  | zero =>
    intro S X c S' X' c1 c2 hR hS h1 h2
    obtain ⟨rfl, rfl⟩ := h1
    obtain ⟨rfl, rfl⟩ := h2
    exact ⟨rfl, hR⟩
  | succ n ih =>
    intro S X c S' X' c1 c2 hR hS h1 h2
    obtain ⟨S1, d1, o1, t1, r1⟩ := h1
    have eg : X.2.2.2 = S.g := hR.2.2.2.2
    have hd1 := dnx_b S.g
    have hd2 := dnx_b (dnx S.g)
    have hR2 : Rel ((S.u_g (dnx S.g)).u_g (dnx (dnx S.g))) ((X.uG (dnx X.2.2.2)).uG (dnx (dnx X.2.2.2))) := by
      rw [eg]
      exact (hR.uG _).uG _
    have hS2 : ((S.u_g (dnx S.g)).u_g (dnx (dnx S.g))).Ok := St.Ok_g (St.Ok_g hS hd1.1 hd1.2) hd2.1 hd2.2
    have hx1 := dvl_b (g := S.g) hv
    have hy1 := dvl_b (g := dnx S.g) hv
    have hq : inSq (dvl S.g v) (dvl (dnx S.g) v) := ⟨by omega, by omega, by omega, by omega⟩
    have htk := hR2.takes_iff (x := dvl S.g v) (y := dvl (dnx S.g) v)
    rw [eg] at hR2 htk
    rcases t1 with ⟨a1, ⟨p, p1, p2, p3⟩, rfl⟩ | ⟨a1, rfl, rfl⟩
    · have z := htk.mp a1
      unfold drawX at h2
      rw [eg] at h2
      rcases h2 with ⟨k, k1, k2, k3, k4⟩ | ⟨k3, -⟩
      · have ek : k = p := by
          have := hR2.lu_free
          omega
        subst ek
        exact ih (hR2.tell hS2 p1 p2 p3) o1 r1 k4
      · exact absurd ⟨z.2.1, z.2.2⟩ k3
    · unfold drawX at h2
      rw [eg] at h2
      rcases h2 with ⟨k, k1, k2, k3, k4⟩ | ⟨k3, k4⟩
      · exact absurd (htk.mpr ⟨hq, k3.1, k3.2⟩) a1
      · exact ih hR2 hS2 r1 k4
theorem Sh.In_uG {X : Sh} (h : X.In) {g : Int} (h1 : 0 ≤ g) (h2 : g < 30047) : (X.uG g).In := ⟨h.1, h.2.1, h.2.2.1, h1, h2⟩
theorem l_draw739y {w : pW} {b c m9 i c9 k n ws aw s : Nat} {v9 dx dy : Int} {Φ : Option Value → pW → Prop} (hi : i < 100) (hc : c9 ≤ i) (h3 : 0 ≤ i) {k8 : Nat} (hk : k8 < 40) (KK : qE 158 (703, [(20, .int (iI ((i + 1 : Nat) : Int))), (19, .int (iI ((c9 + 1 : Nat) : Int))), (18, .int (iI v9)), (17, .int (iI (m9 : Int))), (9, .int (iI 1)), (8, .ref c), (5, .int (iI (k : Int))), (4, .int (iI (n : Int))), (3, .ref ws), (2, .ref aw), (1, .ref b), (0, .ref s)], [], w) Φ) : qE 158 (739, [(22, .int (iI dy)), (21, .int (iI dx)), (20, .int (iI (i : Int))), (19, .int (iI (c9 : Int))), (18, .int (iI v9)), (17, .int (iI (m9 : Int))), (9, .int (iI 1)), (8, .ref c), (5, .int (iI (k : Int))), (4, .int (iI (n : Int))), (3, .ref ws), (2, .ref aw), (1, .ref b), (0, .ref s)], [.int (iI (k8 : Int)), .int (iI (c9 : Int))], w) Φ := by
  refine pe_go rfl (s_if_ge_t ⟨by omega, by omega⟩ (by omega)) ?_
  refine pe_go (pc := 746) rfl (s_iconst (z := 1) rfl) ?_
  refine pe_go (pc := 747) rfl s_iadd ?_
  refine pe_go (pc := 748) rfl (s_istore (lv' := [(19, .int (iI ((c9 : Int) + 1))), (22, .int (iI dy)), (21, .int (iI dx)), (20, .int (iI (i : Int))), (18, .int (iI v9)), (17, .int (iI (m9 : Int))), (9, .int (iI 1)), (8, .ref c), (5, .int (iI (k : Int))), (4, .int (iI (n : Int))), (3, .ref ws), (2, .ref aw), (1, .ref b), (0, .ref s)]) rfl) ?_
  refine pe_go (pc := 750) rfl (s_iinc (x := (i : Int)) (y := ((i + 1 : Nat) : Int)) rfl (by omega) (lv' := [(20, .int (iI ((i + 1 : Nat) : Int))), (19, .int (iI ((c9 : Int) + 1))), (22, .int (iI dy)), (21, .int (iI dx)), (18, .int (iI v9)), (17, .int (iI (m9 : Int))), (9, .int (iI 1)), (8, .ref c), (5, .int (iI (k : Int))), (4, .int (iI (n : Int))), (3, .ref ws), (2, .ref aw), (1, .ref b), (0, .ref s)]) rfl) ?_
  refine pe_go (pc := 753) rfl s_goto ?_
  rw [show (c9 : Int) + 1 = ((c9 + 1 : Nat) : Int) by omega]
  refine pe_few (lv := [(20, .int (iI ((i + 1 : Nat) : Int))), (19, .int (iI ((c9 + 1 : Nat) : Int))), (18, .int (iI v9)), (17, .int (iI (m9 : Int))), (9, .int (iI 1)), (8, .ref c), (5, .int (iI (k : Int))), (4, .int (iI (n : Int))), (3, .ref ws), (2, .ref aw), (1, .ref b), (0, .ref s)]) rfl rfl (by intro q hq; simp only [List.mem_cons, List.not_mem_nil, or_false] at hq; rcases hq with rfl | rfl | rfl | rfl | rfl | rfl | rfl | rfl | rfl | rfl | rfl | rfl <;> rfl) ?_
  exact KK
theorem l_draw739n {w : pW} {b c m9 i c9 k n ws aw s : Nat} {v9 dx dy : Int} {Φ : Option Value → pW → Prop} (hi : i < 100) (hc : c9 ≤ i) (h3 : 0 ≤ i) (KK : qE 158 (703, [(20, .int (iI ((i + 1 : Nat) : Int))), (19, .int (iI (c9 : Int))), (18, .int (iI v9)), (17, .int (iI (m9 : Int))), (9, .int (iI 1)), (8, .ref c), (5, .int (iI (k : Int))), (4, .int (iI (n : Int))), (3, .ref ws), (2, .ref aw), (1, .ref b), (0, .ref s)], [], w) Φ) : qE 158 (739, [(22, .int (iI dy)), (21, .int (iI dx)), (20, .int (iI (i : Int))), (19, .int (iI (c9 : Int))), (18, .int (iI v9)), (17, .int (iI (m9 : Int))), (9, .int (iI 1)), (8, .ref c), (5, .int (iI (k : Int))), (4, .int (iI (n : Int))), (3, .ref ws), (2, .ref aw), (1, .ref b), (0, .ref s)], [.int (iI (-1)), .int (iI (c9 : Int))], w) Φ := by
  refine pe_go rfl (s_if_ge_f ⟨by decide, by decide⟩ (by omega)) ?_
  refine pe_go (pc := 742) rfl (s_iconst (z := 0) rfl) ?_
  refine pe_go (pc := 743) rfl s_goto ?_
  refine pe_go (pc := 747) rfl s_iadd0 ?_
  refine pe_go (pc := 748) rfl (s_istore (lv' := [(19, .int (iI (c9 : Int))), (22, .int (iI dy)), (21, .int (iI dx)), (20, .int (iI (i : Int))), (18, .int (iI v9)), (17, .int (iI (m9 : Int))), (9, .int (iI 1)), (8, .ref c), (5, .int (iI (k : Int))), (4, .int (iI (n : Int))), (3, .ref ws), (2, .ref aw), (1, .ref b), (0, .ref s)]) rfl) ?_
  refine pe_go (pc := 750) rfl (s_iinc (x := (i : Int)) (y := ((i + 1 : Nat) : Int)) rfl (by omega) (lv' := [(20, .int (iI ((i + 1 : Nat) : Int))), (19, .int (iI (c9 : Int))), (22, .int (iI dy)), (21, .int (iI dx)), (18, .int (iI v9)), (17, .int (iI (m9 : Int))), (9, .int (iI 1)), (8, .ref c), (5, .int (iI (k : Int))), (4, .int (iI (n : Int))), (3, .ref ws), (2, .ref aw), (1, .ref b), (0, .ref s)]) rfl) ?_
  refine pe_go (pc := 753) rfl s_goto ?_
  refine pe_few (lv := [(20, .int (iI ((i + 1 : Nat) : Int))), (19, .int (iI (c9 : Int))), (18, .int (iI v9)), (17, .int (iI (m9 : Int))), (9, .int (iI 1)), (8, .ref c), (5, .int (iI (k : Int))), (4, .int (iI (n : Int))), (3, .ref ws), (2, .ref aw), (1, .ref b), (0, .ref s)]) rfl rfl (by intro q hq; simp only [List.mem_cons, List.not_mem_nil, or_false] at hq; rcases hq with rfl | rfl | rfl | rfl | rfl | rfl | rfl | rfl | rfl | rfl | rfl | rfl <;> rfl) ?_
  exact KK
theorem l_draw {b n0 c : Nat} (hbn : b + 57 ≤ n0) {S : St} {L M : List St} {K : St} {m9 : Nat} (hm : m9 ≤ 10) {v9 : Int} (hv : 1 ≤ v9) (hv2 : v9 ≤ 1000) {k n ws aw s : Nat} {Φ : Option Value → pW → Prop} {X0 : Sh} {w0 : pW} (KK : ∀ (w : pW) (X : Sh) (c9 : Nat), c9 ≤ m9 → drawX v9 m9 X0 0 X c9 → shAt w (fun i => n0 ≤ i) (fun i => ¬ inO b i) c X → agr (fun i => n0 ≤ i) w0 w → gro m9 (3 * m9) w0 w → qE 158 (756, [(19, .int (iI (c9 : Int))), (18, .int (iI v9)), (17, .int (iI (m9 : Int))), (9, .int (iI 1)), (8, .ref c), (5, .int (iI (k : Int))), (4, .int (iI (n : Int))), (3, .ref ws), (2, .ref aw), (1, .ref b), (0, .ref s)], [], w) Φ) : ∀ (d i c9 : Nat) (w : pW) (X : Sh), i + d = m9 → c9 ≤ i → X.In → n0 ≤ w.length → (∀ (Xf : Sh) (cf : Nat), drawX v9 d X c9 Xf cf → drawX v9 m9 X0 0 Xf cf) → shAt w (fun i => n0 ≤ i) (fun i => ¬ inO b i) c X → agr (fun i => n0 ≤ i) w0 w → gro i (3 * i) w0 w → qE 158 (703, [(20, .int (iI (i : Int))), (19, .int (iI (c9 : Int))), (18, .int (iI v9)), (17, .int (iI (m9 : Int))), (9, .int (iI 1)), (8, .ref c), (5, .int (iI (k : Int))), (4, .int (iI (n : Int))), (3, .ref ws), (2, .ref aw), (1, .ref b), (0, .ref s)], [], w) Φ := by
  intro d
  induction d with
  | zero =>
    intro i c9 w X hi hc hIn hlw hcont hu hA hG
    have ei : i = m9 := by omega
    subst ei
    refine pe_go (pc := 703) rfl (s_iload rfl) ?_
    refine pe_go (pc := 705) rfl (s_iload rfl) ?_
    refine pe_go rfl (s_icmp_ge_t ⟨by omega, by omega⟩ ⟨by omega, by omega⟩ (by omega)) ?_
    refine pe_few (lv := [(19, .int (iI (c9 : Int))), (18, .int (iI v9)), (17, .int (iI (i : Int))), (9, .int (iI 1)), (8, .ref c), (5, .int (iI (k : Int))), (4, .int (iI (n : Int))), (3, .ref ws), (2, .ref aw), (1, .ref b), (0, .ref s)]) rfl rfl (by intro q hq; simp only [List.mem_cons, List.not_mem_nil, or_false] at hq; rcases hq with rfl | rfl | rfl | rfl | rfl | rfl | rfl | rfl | rfl | rfl | rfl <;> rfl) ?_
    exact KK w X c9 hc (hcont X c9 ⟨rfl, rfl⟩) hu hA hG
  | succ d ih =>
    intro i c9 w X hi hc hIn hlw hcont hu hA hG
    obtain ⟨fc, hco⟩ := sh_obj hu
    have hd1 := dnx_b X.2.2.2
    have hd2 := dnx_b (dnx X.2.2.2)
    have hx1 := dvl_b (g := X.2.2.2) hv
    have hy1 := dvl_b (g := dnx X.2.2.2) hv
    have hq : inSq (dvl X.2.2.2 v9) (dvl (dnx X.2.2.2) v9) := ⟨by omega, by omega, by omega, by omega⟩
    have hI2 : (((X.uG (dnx X.2.2.2)).uG (dnx (dnx X.2.2.2)))).In := Sh.In_uG (Sh.In_uG hIn hd1.1 hd1.2) hd2.1 hd2.2
    refine pe_go (pc := 703) rfl (s_iload rfl) ?_
    refine pe_go (pc := 705) rfl (s_iload rfl) ?_
    refine pe_go rfl (s_icmp_ge_f ⟨by omega, by omega⟩ ⟨by omega, by omega⟩ (by omega)) ?_
    refine pe_go (pc := 710) rfl (s_aload rfl) ?_
    refine pe_go (pc := 712) rfl (s_iload rfl) ?_
    refine pe_callE rfl (s_invV rfl hco rfl rfl) (w_draw hu hIn.2.2.2 hv hv2) ?_
    rintro _ w1 ⟨rfl, hs1, ho1⟩
    obtain ⟨fc1, hco1⟩ := sh_obj hs1
    refine pe_go (pc := 717) rfl (s_istore (lv' := [(21, .int (iI (dvl X.2.2.2 v9))), (20, .int (iI (i : Int))), (19, .int (iI (c9 : Int))), (18, .int (iI v9)), (17, .int (iI (m9 : Int))), (9, .int (iI 1)), (8, .ref c), (5, .int (iI (k : Int))), (4, .int (iI (n : Int))), (3, .ref ws), (2, .ref aw), (1, .ref b), (0, .ref s)]) rfl) ?_
    refine pe_go (pc := 719) rfl (s_aload rfl) ?_
    refine pe_go (pc := 721) rfl (s_iload rfl) ?_
    refine pe_callE rfl (s_invV rfl hco1 rfl rfl) (w_draw hs1 (X := X.uG (dnx X.2.2.2)) ⟨hd1.1, hd1.2⟩ hv hv2) ?_
    rintro _ w2 ⟨rfl, hs2, ho2⟩
    obtain ⟨fc2, hco2⟩ := sh_obj hs2
    refine pe_go (pc := 726) rfl (s_istore (lv' := [(22, .int (iI (dvl (dnx X.2.2.2) v9))), (21, .int (iI (dvl X.2.2.2 v9))), (20, .int (iI (i : Int))), (19, .int (iI (c9 : Int))), (18, .int (iI v9)), (17, .int (iI (m9 : Int))), (9, .int (iI 1)), (8, .ref c), (5, .int (iI (k : Int))), (4, .int (iI (n : Int))), (3, .ref ws), (2, .ref aw), (1, .ref b), (0, .ref s)]) rfl) ?_
    refine pe_go (pc := 728) rfl (s_iload rfl) ?_
    refine pe_go (pc := 730) rfl (s_aload rfl) ?_
    refine pe_go (pc := 732) rfl (s_iload rfl) ?_
    refine pe_go (pc := 734) rfl (s_iload rfl) ?_
    refine pe_few (lv := [(22, .int (iI (dvl (dnx X.2.2.2) v9))), (21, .int (iI (dvl X.2.2.2 v9))), (20, .int (iI (i : Int))), (19, .int (iI (c9 : Int))), (18, .int (iI v9)), (17, .int (iI (m9 : Int))), (9, .int (iI 1)), (8, .ref c), (5, .int (iI (k : Int))), (4, .int (iI (n : Int))), (3, .ref ws), (2, .ref aw), (1, .ref b), (0, .ref s)]) rfl rfl (by intro q hq; simp only [List.mem_cons, List.not_mem_nil, or_false] at hq; rcases hq with rfl | rfl | rfl | rfl | rfl | rfl | rfl | rfl | rfl | rfl | rfl | rfl | rfl | rfl <;> rfl) ?_
    have hA2 := P_trans hA (P_trans ho1.1 ho2.1)
    have hl2 := (P_trans ho1.1 ho2.1).1
    have hG2 := gro_trans hG (gro_trans ho1.2 ho2.2)
    refine pe_callE rfl (s_invV rfl hco2 rfl rfl) (w_tells hq hI2 hs2 (new_ok hbn (by omega))) ?_
    rintro _ w8 (⟨hf8, k8, hk8, hfk, rfl, hs8, hI8, hA8, hG8⟩ | ⟨hno, rfl, rfl⟩)
    · refine l_draw739y (by omega) (by omega) (by omega) (by omega) ?_
      exact ih (i + 1) (c9 + 1) w8 _ (by omega) (by omega) hI8 (by have := hA8.1; omega) (fun Xf cf hh => hcont Xf cf (Or.inl ⟨k8, hk8, hfk, hf8, hh⟩)) hs8 (P_trans hA2 hA8) (gro_mono (gro_trans hG2 hG8) (by omega) (by omega))
    · refine l_draw739n (by omega) (by omega) (by omega) ?_
      exact ih (i + 1) c9 _ _ (by omega) (by omega) hI2 (by omega) (fun Xf cf hh => hcont Xf cf (Or.inr ⟨hno, hh⟩)) hs2 hA2 (gro_mono hG2 (by omega) (by omega))
theorem l_case6b {w : pW} {b n0 c : Nat} (hbn : b + 57 ≤ n0) {S : St} {L M : List St} {K : St} (hk : obk w b S L M K) {X : Sh} (hs : shAt w (fun i => n0 ≤ i) (fun i => ¬ inO b i) c X) {m9 c9 : Nat} (h1 : 1 ≤ m9) (h2 : m9 ≤ 10) {v9 : Int} (hv : 1 ≤ v9) (hv2 : v9 ≤ 1000) (hc9 : c9 ≤ 10) (hd : ∀ (S' : St) (c' : Nat), drawR v9 m9 S 0 S' c' → c' = c9 ∧ Rel S' X) {k n ws aw s : Nat} {Φ : Option Value → pW → Prop} (KK : ∀ (w' : pW) (S' : St), obk w' b S' (pshL S L) M K → Rel S' X → shAt w' (fun i => n0 ≤ i) (fun i => ¬ inO b i) c X → chg b w w' → qE 158 (1559, [(9, .int (iI 1)), (8, .ref c), (5, .int (iI (k : Int))), (4, .int (iI (n : Int))), (3, .ref ws), (2, .ref aw), (1, .ref b), (0, .ref s)], [], w') Φ) : qE 158 (756, [(19, .int (iI (c9 : Int))), (18, .int (iI v9)), (17, .int (iI (m9 : Int))), (9, .int (iI 1)), (8, .ref c), (5, .int (iI (k : Int))), (4, .int (iI (n : Int))), (3, .ref ws), (2, .ref aw), (1, .ref b), (0, .ref s)], [], w) Φ := by
  obtain ⟨fb, hbo⟩ := obk_obj hk
  refine pe_go (pc := 756) rfl (s_aload_n rfl) ?_
  refine pe_go (pc := 757) rfl (s_iload rfl) ?_
  refine pe_go (pc := 759) rfl (s_iload rfl) ?_
  refine pe_callE rfl (s_invV rfl hbo rfl rfl) (k_drawn hk h1 (by omega) hv hv2) ?_
  rintro _ w1 ⟨S1, c1, hd1, rfl, ho1, hc1⟩
  obtain ⟨ec, hr9⟩ := hd _ _ hd1
  subst ec
  refine pe_go (pc := 764) rfl (s_iload rfl) ?_
  refine pe_go rfl (s_icmp_eq_t ⟨by omega, by omega⟩ ⟨by omega, by omega⟩ rfl) ?_
  refine pe_go (pc := 771) rfl s_goto ?_
  refine pe_few (lv := [(9, .int (iI 1)), (8, .ref c), (5, .int (iI (k : Int))), (4, .int (iI (n : Int))), (3, .ref ws), (2, .ref aw), (1, .ref b), (0, .ref s)]) rfl rfl (by intro q hq; simp only [List.mem_cons, List.not_mem_nil, or_false] at hq; rcases hq with rfl | rfl | rfl | rfl | rfl | rfl | rfl | rfl <;> rfl) ?_
  exact KK _ _ ho1 hr9 (sh_chg hbn hs hc1) hc1
theorem l_case6 {w : pW} {b n0 : Nat} (hbn : b + 57 ≤ n0) {S : St} {L M : List St} {K : St} (hk : obk w b S L M K) {c : Nat} {X : Sh} (hu : shAt w (fun i => n0 ≤ i) (fun i => ¬ inO b i) c X) (hR : Rel S X) (hlw : n0 ≤ w.length) {k n ws aw s : Nat} {x y px py grid what : Int} {Φ : Option Value → pW → Prop} {p q inn : Int} (hy0 : 0 ≤ y ∧ y < 2147483648) (hx0 : 0 ≤ x ∧ x < 2147483648) (KKd : ∀ (w' : pW) (S' : St) (X' : Sh), obk w' b S' (pshL S L) M K → Rel S' X' → shAt w' (fun i => n0 ≤ i) (fun i => ¬ inO b i) c X' → agr (fun i => inO b i ∨ n0 ≤ i) w w' → gro 2000 (2 * pwsz (nP 0) + 12000) w w' → qE 158 (1559, [(9, .int (iI 1)), (8, .ref c), (5, .int (iI (k : Int))), (4, .int (iI (n : Int))), (3, .ref ws), (2, .ref aw), (1, .ref b), (0, .ref s)], [], w') Φ) : qE 158 (675, [(16, .int (iI inn)), (15, .int (iI what)), (14, .int (iI q)), (13, .int (iI p)), (12, .int (iI py)), (11, .int (iI px)), (10, .int (iI grid)), (9, .int (iI 1)), (8, .ref c), (7, .int (iI y)), (6, .int (iI x)), (5, .int (iI (k : Int))), (4, .int (iI (n : Int))), (3, .ref ws), (2, .ref aw), (1, .ref b), (0, .ref s)], [], w) Φ := by
  have hko := obk_ok hk
  have hIn := hR.In hko
  have hX9 := hIn.1
  obtain ⟨fb, hbo⟩ := obk_obj hk
  obtain ⟨fc, hco⟩ := sh_obj hu
  have hfs := Sh.free_sm X
  have has := Sh.at_sm X px py
  obtain ⟨m9, hm9⟩ := Int.eq_ofNat_of_zero_le (show 0 ≤ 1 + y % 6 by omega)
  have hm8 : 1 ≤ m9 ∧ m9 ≤ 6 := by omega
  obtain ⟨v9, hv9⟩ : ∃ v9 : Int, 1 + x / 32 % 400 = v9 := ⟨_, rfl⟩
  have hv8 : 1 ≤ v9 ∧ v9 ≤ 400 := by omega
  refine pe_go (pc := 675) rfl (s_iconst (z := 1) rfl) ?_
  refine pe_go (pc := 676) rfl (s_iload rfl) ?_
  refine pe_go (pc := 678) rfl (s_bipush (z := 6) rfl) ?_
  refine pe_go (pc := 680) rfl (s_irem ⟨by omega, by omega⟩ ⟨by decide, by decide⟩ (by decide) (by omega) (Int.tmod_eq_emod_of_nonneg (by omega))) ?_
  refine pe_go (pc := 681) rfl s_iadd ?_
  rw [hm9]
  refine pe_go (pc := 682) rfl (s_istore (lv' := [(17, .int (iI (m9 : Int))), (16, .int (iI inn)), (15, .int (iI what)), (14, .int (iI q)), (13, .int (iI p)), (12, .int (iI py)), (11, .int (iI px)), (10, .int (iI grid)), (9, .int (iI 1)), (8, .ref c), (7, .int (iI y)), (6, .int (iI x)), (5, .int (iI (k : Int))), (4, .int (iI (n : Int))), (3, .ref ws), (2, .ref aw), (1, .ref b), (0, .ref s)]) rfl) ?_
  refine pe_go (pc := 684) rfl (s_iconst (z := 1) rfl) ?_
  refine pe_go (pc := 685) rfl (s_iload rfl) ?_
  refine pe_go (pc := 687) rfl (s_bipush (z := 32) rfl) ?_
  refine pe_go (pc := 689) rfl (s_idiv ⟨by omega, by omega⟩ ⟨by decide, by decide⟩ (by decide) (by omega) (Int.tdiv_eq_ediv_of_nonneg (by omega))) ?_
  refine pe_go (pc := 690) rfl (s_sipush (z := 400) rfl) ?_
  refine pe_go (pc := 693) rfl (s_irem ⟨by omega, by omega⟩ ⟨by decide, by decide⟩ (by decide) (by omega) (Int.tmod_eq_emod_of_nonneg (by omega))) ?_
  refine pe_go (pc := 694) rfl s_iadd ?_
  rw [hv9]
  refine pe_go (pc := 695) rfl (s_istore (lv' := [(18, .int (iI v9)), (17, .int (iI (m9 : Int))), (16, .int (iI inn)), (15, .int (iI what)), (14, .int (iI q)), (13, .int (iI p)), (12, .int (iI py)), (11, .int (iI px)), (10, .int (iI grid)), (9, .int (iI 1)), (8, .ref c), (7, .int (iI y)), (6, .int (iI x)), (5, .int (iI (k : Int))), (4, .int (iI (n : Int))), (3, .ref ws), (2, .ref aw), (1, .ref b), (0, .ref s)]) rfl) ?_
  refine pe_go (pc := 697) rfl (s_iconst (z := 0) rfl) ?_
  refine pe_go (pc := 698) rfl (s_istore (lv' := [(19, .int (iI 0)), (18, .int (iI v9)), (17, .int (iI (m9 : Int))), (16, .int (iI inn)), (15, .int (iI what)), (14, .int (iI q)), (13, .int (iI p)), (12, .int (iI py)), (11, .int (iI px)), (10, .int (iI grid)), (9, .int (iI 1)), (8, .ref c), (7, .int (iI y)), (6, .int (iI x)), (5, .int (iI (k : Int))), (4, .int (iI (n : Int))), (3, .ref ws), (2, .ref aw), (1, .ref b), (0, .ref s)]) rfl) ?_
  refine pe_go (pc := 700) rfl (s_iconst (z := 0) rfl) ?_
  refine pe_go (pc := 701) rfl (s_istore (lv' := [(20, .int (iI 0)), (19, .int (iI 0)), (18, .int (iI v9)), (17, .int (iI (m9 : Int))), (16, .int (iI inn)), (15, .int (iI what)), (14, .int (iI q)), (13, .int (iI p)), (12, .int (iI py)), (11, .int (iI px)), (10, .int (iI grid)), (9, .int (iI 1)), (8, .ref c), (7, .int (iI y)), (6, .int (iI x)), (5, .int (iI (k : Int))), (4, .int (iI (n : Int))), (3, .ref ws), (2, .ref aw), (1, .ref b), (0, .ref s)]) rfl) ?_
  skip
  refine pe_few (lv := [(20, .int (iI (0 : Int))), (19, .int (iI (0 : Int))), (18, .int (iI v9)), (17, .int (iI (m9 : Int))), (9, .int (iI 1)), (8, .ref c), (5, .int (iI (k : Int))), (4, .int (iI (n : Int))), (3, .ref ws), (2, .ref aw), (1, .ref b), (0, .ref s)]) rfl rfl (by intro q hq; simp only [List.mem_cons, List.not_mem_nil, or_false] at hq; rcases hq with rfl | rfl | rfl | rfl | rfl | rfl | rfl | rfl | rfl | rfl | rfl | rfl <;> rfl) ?_
  refine l_draw hbn (S := S) (L := L) (M := M) (K := K) (by omega) hv8.1 (by omega) (X0 := X) (w0 := w) (fun w9 X9 c9 hc9 hdx hs9 hA9 hG9 => ?_) m9 0 0 w X (by omega) (Nat.le_refl _) hIn hlw (fun Xf cf hh => hh) hu (agr_refl _ _) (gro_0 _)
  exact l_case6b hbn (obk_own hbn hk hA9) hs9 hm8.1 (by omega) hv8.1 (by omega) (by omega) (fun S9 c8 hdr => draw_two hv8.1 (by omega) m9 hR hko hdr hdx) (fun w8 S8 ho8 hr8 hs8 hc8 => KKd _ _ _ ho8 hr8 hs8 (P_trans (P_own hA9) (P_chg hc8)) (G_of (gro_trans hG9 (g_chg hc8)) (by omega) (by omega)))
