/-! THE LAW: what lies beyond each side. Rows laid by program (wip/p63/wk.py, hw.py, mk98p.py). -/
/-- the law's table: which triangle has the side from x to y, and one more -/
def St.sid (S : St) (x y : Nat) : Int := if S.ap (x * 40 + y) = -1 then 0 else S.ow (x * 40 + y) + 1
def tabAt (w : pW) (q : Nat) (tf : Nat → Option Nat) (tr : Nat → Nat) (G : Nat → Nat → Int) : Prop := w[q]? = some (.inl (3, 40, rfs tf)) ∧ ∀ x : Nat, x < 40 → tf x = some (tr x) ∧ rowI w (tr x) 40 (G x)
theorem l_beyond {w : pW} {pre post : pW} {b : Nat} (hb : pre.length = b) {S : St} {L M : List St} {K : St} (hO : OB pre post b S L M K w) {a : Nat} {T : Nat} (hT : S.tn = (T : Int)) (hT2 : T ≤ 74) (hC : ∀ t k : Nat, t < T → k < 3 → S.cn t k < 40) {q : Nat} {tf : Nat → Option Nat} {tr : Nat → Nat} {G : Nat → Nat → Int} (hT9 : tabAt w q tf tr G) (hG : ∀ x y : Nat, x < 40 → y < 40 → 0 ≤ G x y ∧ G x y ≤ 74) (hA : ∀ t k : Nat, t < T → k < 3 → S.acr t k = G (S.cn t ((k + 1) % 3)) (S.cn t k) - 1) {x3 x4 x5 x6 x7 x8 : Int} {Φ : Option Value → pW → Prop} (KK : qE 151 (1023, [(9, .ref q), (8, .int (iI x8)), (7, .int (iI x7)), (6, .int (iI x6)), (5, .int (iI x5)), (4, .int (iI x4)), (3, .int (iI x3)), (2, .int (iI (T : Int))), (0, .ref b), (1, .ref a)], [], w) Φ) : ∀ (d t : Nat), t + d = T → qE 151 (957, [(10, .int (iI (t : Int))), (9, .ref q), (8, .int (iI x8)), (7, .int (iI x7)), (6, .int (iI x6)), (5, .int (iI x5)), (4, .int (iI x4)), (3, .int (iI x3)), (2, .int (iI (T : Int))), (0, .ref b), (1, .ref a)], [], w) Φ := by
  intro d
  induction d with
  | zero =>
    intro t ht
    have htT : t = T := by omega
    subst htT
    refine pe_go (pc := 957) rfl (s_iload rfl) ?_
    refine pe_go (pc := 959) rfl (s_iload_n rfl) ?_
    refine pe_go rfl (s_icmp_ge_t ⟨by omega, by omega⟩ ⟨by omega, by omega⟩ (by omega)) ?_
    refine pe_few (lv := [(9, .ref q), (8, .int (iI x8)), (7, .int (iI x7)), (6, .int (iI x6)), (5, .int (iI x5)), (4, .int (iI x4)), (3, .int (iI x3)), (2, .int (iI (t : Int))), (0, .ref b), (1, .ref a)]) rfl rfl (by intro q hq; simp only [List.mem_cons, List.not_mem_nil, or_false] at hq; rcases hq with rfl | rfl | rfl | rfl | rfl | rfl | rfl | rfl | rfl | rfl <;> rfl) ?_
    exact KK
  | succ d ih =>
    intro t ht
    obtain ⟨p0, hc0⟩ : ∃ p, S.cn t 0 = p := ⟨_, rfl⟩
    have hp0 := hC t 0 (by omega) (by decide)
    rw [hc0] at hp0
    obtain ⟨p1, hc1⟩ : ∃ p, S.cn t 1 = p := ⟨_, rfl⟩
    have hp1 := hC t 1 (by omega) (by decide)
    rw [hc1] at hp1
    obtain ⟨p2, hc2⟩ : ∃ p, S.cn t 2 = p := ⟨_, rfl⟩
    have hp2 := hC t 2 (by omega) (by decide)
    rw [hc2] at hp2
    have ha0 := hA t 0 (by omega) (by decide)
    rw [show (0 + 1) % 3 = 1 from rfl, hc1, hc0] at ha0
    have hg0 := hG p1 p0 hp1 hp0
    obtain ⟨ef0, hr0⟩ := hT9.2 p0 hp0
    have ha1 := hA t 1 (by omega) (by decide)
    rw [show (1 + 1) % 3 = 2 from rfl, hc2, hc1] at ha1
    have hg1 := hG p2 p1 hp2 hp1
    obtain ⟨ef1, hr1⟩ := hT9.2 p1 hp1
    have ha2 := hA t 2 (by omega) (by decide)
    rw [show (2 + 1) % 3 = 0 from rfl, hc0, hc2] at ha2
    have hg2 := hG p0 p2 hp0 hp2
    obtain ⟨ef2, hr2⟩ := hT9.2 p2 hp2
    refine pe_go (pc := 957) rfl (s_iload rfl) ?_
    refine pe_go (pc := 959) rfl (s_iload_n rfl) ?_
    refine pe_go rfl (s_icmp_ge_f ⟨by omega, by omega⟩ ⟨by omega, by omega⟩ (by omega)) ?_
    refine pe_go (pc := 963) rfl (s_iconst (z := 0) rfl) ?_
    refine pe_go (pc := 964) rfl (s_istore (lv' := [(11, .int (iI 0)), (10, .int (iI (t : Int))), (9, .ref q), (8, .int (iI x8)), (7, .int (iI x7)), (6, .int (iI x6)), (5, .int (iI x5)), (4, .int (iI x4)), (3, .int (iI x3)), (2, .int (iI (T : Int))), (0, .ref b), (1, .ref a)]) rfl) ?_
    refine pe_go (pc := 966) rfl (s_iload rfl) ?_
    refine pe_go (pc := 968) rfl (s_iconst (z := 3) rfl) ?_
    refine pe_go rfl (s_icmp_ge_f ⟨by decide, by decide⟩ ⟨by decide, by decide⟩ (by decide)) ?_
    refine pe_go (pc := 972) rfl (s_aload_n rfl) ?_
    refine pe_go (pc := 973) rfl (s_iload rfl) ?_
    refine pe_go (pc := 975) rfl (s_iload rfl) ?_
    refine pe_call rfl (s_invV rfl (OB.obj hb hO) rfl rfl) (o_beyond hb hO hT hT2 (t := t) (k := 0) (by omega) (by decide)) ?_
    refine pe_go (pc := 980) rfl (s_aload rfl) ?_
    refine pe_go (pc := 982) rfl (s_aload_n rfl) ?_
    refine pe_go (pc := 983) rfl (s_iload rfl) ?_
    refine pe_go (pc := 985) rfl (s_iload rfl) ?_
    refine pe_go (pc := 987) rfl (s_iconst (z := 1) rfl) ?_
    refine pe_go (q := (989, [(11, .int (iI 0)), (10, .int (iI (t : Int))), (9, .ref q), (8, .int (iI x8)), (7, .int (iI x7)), (6, .int (iI x6)), (5, .int (iI x5)), (4, .int (iI x4)), (3, .int (iI x3)), (2, .int (iI (T : Int))), (0, .ref b), (1, .ref a)], [.int (iI 1), .int (iI (t : Int)), .ref b, .ref q, .int (iI (S.acr t 0))], w)) rfl s_iadd ?_
    refine pe_go (pc := 989) rfl (s_iconst (z := 3) rfl) ?_
    refine pe_go (pc := 990) rfl (s_irem ⟨by decide, by decide⟩ ⟨by decide, by decide⟩ (by decide) (by decide) (show Int.tmod 1 3 = 1 from by decide)) ?_
    refine pe_call rfl (s_invV rfl (OB.obj hb hO) rfl rfl) (corner_at hb hO hT hT2 (t := t) (k := 1) (by omega) (by decide) hc1) ?_
    refine pe_go (pc := 994) rfl (s_aald hT9.1 (k := p1) (by omega) (by omega) ef1) ?_
    refine pe_go (pc := 995) rfl (s_aload_n rfl) ?_
    refine pe_go (pc := 996) rfl (s_iload rfl) ?_
    refine pe_go (pc := 998) rfl (s_iload rfl) ?_
    refine pe_call rfl (s_invV rfl (OB.obj hb hO) rfl rfl) (corner_at hb hO hT hT2 (t := t) (k := 0) (by omega) (by decide) hc0) ?_
    refine pe_go (pc := 1003) rfl (s_iald (n := 40) (f := G p1) (v := G p1 p0) hr1 (k := p0) (by omega) (by omega) (by decide) rfl) ?_
    refine pe_go (pc := 1004) rfl (s_iconst (z := 1) rfl) ?_
    refine pe_go (pc := 1005) rfl s_isub ?_
    refine pe_go rfl (s_icmp_eq_t ⟨by omega, by omega⟩ ⟨by omega, by omega⟩ (by omega)) ?_
    refine pe_go (pc := 1011) rfl (s_iinc (x := 0) (y := 1) rfl (by omega) (lv' := [(11, .int (iI 1)), (10, .int (iI (t : Int))), (9, .ref q), (8, .int (iI x8)), (7, .int (iI x7)), (6, .int (iI x6)), (5, .int (iI x5)), (4, .int (iI x4)), (3, .int (iI x3)), (2, .int (iI (T : Int))), (0, .ref b), (1, .ref a)]) rfl) ?_
    refine pe_go (pc := 1014) rfl s_goto ?_
    refine pe_go (pc := 966) rfl (s_iload rfl) ?_
    refine pe_go (pc := 968) rfl (s_iconst (z := 3) rfl) ?_
    refine pe_go rfl (s_icmp_ge_f ⟨by decide, by decide⟩ ⟨by decide, by decide⟩ (by decide)) ?_
    refine pe_go (pc := 972) rfl (s_aload_n rfl) ?_
    refine pe_go (pc := 973) rfl (s_iload rfl) ?_
    refine pe_go (pc := 975) rfl (s_iload rfl) ?_
    refine pe_call rfl (s_invV rfl (OB.obj hb hO) rfl rfl) (o_beyond hb hO hT hT2 (t := t) (k := 1) (by omega) (by decide)) ?_
    refine pe_go (pc := 980) rfl (s_aload rfl) ?_
    refine pe_go (pc := 982) rfl (s_aload_n rfl) ?_
    refine pe_go (pc := 983) rfl (s_iload rfl) ?_
    refine pe_go (pc := 985) rfl (s_iload rfl) ?_
    refine pe_go (pc := 987) rfl (s_iconst (z := 1) rfl) ?_
    refine pe_go (q := (989, [(11, .int (iI 1)), (10, .int (iI (t : Int))), (9, .ref q), (8, .int (iI x8)), (7, .int (iI x7)), (6, .int (iI x6)), (5, .int (iI x5)), (4, .int (iI x4)), (3, .int (iI x3)), (2, .int (iI (T : Int))), (0, .ref b), (1, .ref a)], [.int (iI 2), .int (iI (t : Int)), .ref b, .ref q, .int (iI (S.acr t 1))], w)) rfl s_iadd ?_
    refine pe_go (pc := 989) rfl (s_iconst (z := 3) rfl) ?_
    refine pe_go (pc := 990) rfl (s_irem ⟨by decide, by decide⟩ ⟨by decide, by decide⟩ (by decide) (by decide) (show Int.tmod 2 3 = 2 from by decide)) ?_
    refine pe_call rfl (s_invV rfl (OB.obj hb hO) rfl rfl) (corner_at hb hO hT hT2 (t := t) (k := 2) (by omega) (by decide) hc2) ?_
    refine pe_go (pc := 994) rfl (s_aald hT9.1 (k := p2) (by omega) (by omega) ef2) ?_
    refine pe_go (pc := 995) rfl (s_aload_n rfl) ?_
    refine pe_go (pc := 996) rfl (s_iload rfl) ?_
    refine pe_go (pc := 998) rfl (s_iload rfl) ?_
    refine pe_call rfl (s_invV rfl (OB.obj hb hO) rfl rfl) (corner_at hb hO hT hT2 (t := t) (k := 1) (by omega) (by decide) hc1) ?_
    refine pe_go (pc := 1003) rfl (s_iald (n := 40) (f := G p2) (v := G p2 p1) hr2 (k := p1) (by omega) (by omega) (by decide) rfl) ?_
    refine pe_go (pc := 1004) rfl (s_iconst (z := 1) rfl) ?_
    refine pe_go (pc := 1005) rfl s_isub ?_
    refine pe_go rfl (s_icmp_eq_t ⟨by omega, by omega⟩ ⟨by omega, by omega⟩ (by omega)) ?_
    refine pe_go (pc := 1011) rfl (s_iinc (x := 1) (y := 2) rfl (by omega) (lv' := [(11, .int (iI 2)), (10, .int (iI (t : Int))), (9, .ref q), (8, .int (iI x8)), (7, .int (iI x7)), (6, .int (iI x6)), (5, .int (iI x5)), (4, .int (iI x4)), (3, .int (iI x3)), (2, .int (iI (T : Int))), (0, .ref b), (1, .ref a)]) rfl) ?_
    refine pe_go (pc := 1014) rfl s_goto ?_
    refine pe_go (pc := 966) rfl (s_iload rfl) ?_
    refine pe_go (pc := 968) rfl (s_iconst (z := 3) rfl) ?_
    refine pe_go rfl (s_icmp_ge_f ⟨by decide, by decide⟩ ⟨by decide, by decide⟩ (by decide)) ?_
    refine pe_go (pc := 972) rfl (s_aload_n rfl) ?_
    refine pe_go (pc := 973) rfl (s_iload rfl) ?_
    refine pe_go (pc := 975) rfl (s_iload rfl) ?_
    refine pe_call rfl (s_invV rfl (OB.obj hb hO) rfl rfl) (o_beyond hb hO hT hT2 (t := t) (k := 2) (by omega) (by decide)) ?_
    refine pe_go (pc := 980) rfl (s_aload rfl) ?_
    refine pe_go (pc := 982) rfl (s_aload_n rfl) ?_
    refine pe_go (pc := 983) rfl (s_iload rfl) ?_
    refine pe_go (pc := 985) rfl (s_iload rfl) ?_
    refine pe_go (pc := 987) rfl (s_iconst (z := 1) rfl) ?_
    refine pe_go (q := (989, [(11, .int (iI 2)), (10, .int (iI (t : Int))), (9, .ref q), (8, .int (iI x8)), (7, .int (iI x7)), (6, .int (iI x6)), (5, .int (iI x5)), (4, .int (iI x4)), (3, .int (iI x3)), (2, .int (iI (T : Int))), (0, .ref b), (1, .ref a)], [.int (iI 3), .int (iI (t : Int)), .ref b, .ref q, .int (iI (S.acr t 2))], w)) rfl s_iadd ?_
    refine pe_go (pc := 989) rfl (s_iconst (z := 3) rfl) ?_
    refine pe_go (pc := 990) rfl (s_irem ⟨by decide, by decide⟩ ⟨by decide, by decide⟩ (by decide) (by decide) (show Int.tmod 3 3 = 0 from by decide)) ?_
    refine pe_call rfl (s_invV rfl (OB.obj hb hO) rfl rfl) (corner_at hb hO hT hT2 (t := t) (k := 0) (by omega) (by decide) hc0) ?_
    refine pe_go (pc := 994) rfl (s_aald hT9.1 (k := p0) (by omega) (by omega) ef0) ?_
    refine pe_go (pc := 995) rfl (s_aload_n rfl) ?_
    refine pe_go (pc := 996) rfl (s_iload rfl) ?_
    refine pe_go (pc := 998) rfl (s_iload rfl) ?_
    refine pe_call rfl (s_invV rfl (OB.obj hb hO) rfl rfl) (corner_at hb hO hT hT2 (t := t) (k := 2) (by omega) (by decide) hc2) ?_
    refine pe_go (pc := 1003) rfl (s_iald (n := 40) (f := G p0) (v := G p0 p2) hr0 (k := p2) (by omega) (by omega) (by decide) rfl) ?_
    refine pe_go (pc := 1004) rfl (s_iconst (z := 1) rfl) ?_
    refine pe_go (pc := 1005) rfl s_isub ?_
    refine pe_go rfl (s_icmp_eq_t ⟨by omega, by omega⟩ ⟨by omega, by omega⟩ (by omega)) ?_
    refine pe_go (pc := 1011) rfl (s_iinc (x := 2) (y := 3) rfl (by omega) (lv' := [(11, .int (iI 3)), (10, .int (iI (t : Int))), (9, .ref q), (8, .int (iI x8)), (7, .int (iI x7)), (6, .int (iI x6)), (5, .int (iI x5)), (4, .int (iI x4)), (3, .int (iI x3)), (2, .int (iI (T : Int))), (0, .ref b), (1, .ref a)]) rfl) ?_
    refine pe_go (pc := 1014) rfl s_goto ?_
    refine pe_go (pc := 966) rfl (s_iload rfl) ?_
    refine pe_go (pc := 968) rfl (s_iconst (z := 3) rfl) ?_
    refine pe_go rfl (s_icmp_ge_t ⟨by decide, by decide⟩ ⟨by decide, by decide⟩ (by decide)) ?_
    refine pe_go (pc := 1017) rfl (s_iinc (x := (t : Int)) (y := ((t + 1 : Nat) : Int)) rfl (by omega) (lv' := [(10, .int (iI ((t + 1 : Nat) : Int))), (11, .int (iI 3)), (9, .ref q), (8, .int (iI x8)), (7, .int (iI x7)), (6, .int (iI x6)), (5, .int (iI x5)), (4, .int (iI x4)), (3, .int (iI x3)), (2, .int (iI (T : Int))), (0, .ref b), (1, .ref a)]) rfl) ?_
    refine pe_go (pc := 1020) rfl s_goto ?_
    refine pe_few (lv := [(10, .int (iI ((t + 1 : Nat) : Int))), (9, .ref q), (8, .int (iI x8)), (7, .int (iI x7)), (6, .int (iI x6)), (5, .int (iI x5)), (4, .int (iI x4)), (3, .int (iI x3)), (2, .int (iI (T : Int))), (0, .ref b), (1, .ref a)]) rfl rfl (by intro q hq; simp only [List.mem_cons, List.not_mem_nil, or_false] at hq; rcases hq with rfl | rfl | rfl | rfl | rfl | rfl | rfl | rfl | rfl | rfl | rfl <;> rfl) ?_
    exact ih (t + 1) (by omega)
