/-! THE LAW: the colours that are taken. Rows laid by program (wip/p63/wk.py, hw.py, mk98r.py). -/
theorem shl15 {c : Nat} (h : c < 15) : iI 1 <<< (iI (c : Int) &&& 31) = iI ((2 ^ c : Nat) : Int) := by
  match c, h with
  | 0, _ => exact (by decide)
  | 1, _ => exact (by decide)
  | 2, _ => exact (by decide)
  | 3, _ => exact (by decide)
  | 4, _ => exact (by decide)
  | 5, _ => exact (by decide)
  | 6, _ => exact (by decide)
  | 7, _ => exact (by decide)
  | 8, _ => exact (by decide)
  | 9, _ => exact (by decide)
  | 10, _ => exact (by decide)
  | 11, _ => exact (by decide)
  | 12, _ => exact (by decide)
  | 13, _ => exact (by decide)
  | 14, _ => exact (by decide)
theorem or_nat {u v : Nat} : iI (u : Int) ||| iI (v : Int) = iI ((u ||| v : Nat) : Int) := by
  apply Int32.toBitVec.inj
  show BitVec.ofInt 32 (u : Int) ||| BitVec.ofInt 32 (v : Int) = BitVec.ofInt 32 ((u ||| v : Nat) : Int)
  rw [BitVec.ofInt_natCast, BitVec.ofInt_natCast, BitVec.ofInt_natCast]
  apply BitVec.eq_of_getLsbD_eq
  intro i hi
  rw [BitVec.getLsbD_or, BitVec.getLsbD_ofNat, BitVec.getLsbD_ofNat, BitVec.getLsbD_ofNat, Nat.testBit_or]
  simp [hi]
theorem or_nat0 {u : Nat} : iI (u : Int) ||| iI 0 = iI (u : Int) := by
  have := @or_nat u 0
  rw [Nat.or_zero] at this
  exact this
theorem l_taken {w : pW} {S : St} {a b e g q T : Nat} {tf : Nat → Option Nat} {tr : Nat → Nat} {G : Nat → Nat → Int} (hT9 : tabAt w q tf tr G) (hG : ∀ x y : Nat, x < 40 → y < 40 → 0 ≤ G x y ∧ G x y ≤ 74) (hN : ∀ x y : Nat, x < 40 → y < 40 → (0 < G x y + G y x ↔ S.nr x y)) {cl : Nat → Int} (he : rowI w e 40 cl) {p : Nat} (hp : p < 40) (hcl : ∀ q : Nat, q < p → S.nr p q → 0 ≤ cl q ∧ cl q ≤ 14) {mx x3 x4 x5 x6 x7 x8 : Int} {Φ : Option Value → pW → Prop} (KK : ∀ u : Nat, u < 32768 → (∀ c : Nat, c < 15 → (u.testBit c = true ↔ ∃ q : Nat, q < p ∧ S.nr p q ∧ cl q = (c : Int))) → qE 151 (1105, [(14, .int (iI (u : Int))), (13, .int (iI (p : Int))), (12, .int (iI mx)), (11, .ref e), (10, .ref g), (9, .ref q), (8, .int (iI x8)), (7, .int (iI x7)), (6, .int (iI x6)), (5, .int (iI x5)), (4, .int (iI x4)), (3, .int (iI x3)), (2, .int (iI (T : Int))), (0, .ref b), (1, .ref a)], [], w) Φ) : ∀ (d j u : Nat), j + d = p → u < 32768 → (∀ c : Nat, c < 15 → (u.testBit c = true ↔ ∃ q : Nat, q < j ∧ S.nr p q ∧ cl q = (c : Int))) → qE 151 (1056, [(15, .int (iI (j : Int))), (14, .int (iI (u : Int))), (13, .int (iI (p : Int))), (12, .int (iI mx)), (11, .ref e), (10, .ref g), (9, .ref q), (8, .int (iI x8)), (7, .int (iI x7)), (6, .int (iI x6)), (5, .int (iI x5)), (4, .int (iI x4)), (3, .int (iI x3)), (2, .int (iI (T : Int))), (0, .ref b), (1, .ref a)], [], w) Φ := by
  obtain ⟨efp, hrp⟩ := hT9.2 p hp
  intro d
  induction d with
  | zero =>
    intro j u hj hu hb
    have hjp : j = p := by omega
    subst hjp
    refine pe_go (pc := 1056) rfl (s_iload rfl) ?_
    refine pe_go (pc := 1058) rfl (s_iload rfl) ?_
    refine pe_go rfl (s_icmp_ge_t ⟨by omega, by omega⟩ ⟨by omega, by omega⟩ (by omega)) ?_
    refine pe_few (lv := [(14, .int (iI (u : Int))), (13, .int (iI (j : Int))), (12, .int (iI mx)), (11, .ref e), (10, .ref g), (9, .ref q), (8, .int (iI x8)), (7, .int (iI x7)), (6, .int (iI x6)), (5, .int (iI x5)), (4, .int (iI x4)), (3, .int (iI x3)), (2, .int (iI (T : Int))), (0, .ref b), (1, .ref a)]) rfl rfl (by intro q hq; simp only [List.mem_cons, List.not_mem_nil, or_false] at hq; rcases hq with rfl | rfl | rfl | rfl | rfl | rfl | rfl | rfl | rfl | rfl | rfl | rfl | rfl | rfl | rfl <;> rfl) ?_
    exact KK u hu hb
  | succ d ih =>
    intro j u hj hu hb
    have hj4 : j < 40 := by omega
    obtain ⟨efj, hrj⟩ := hT9.2 j hj4
    have g1 := hG p j hp hj4
    have g2 := hG j p hj4 hp
    have hn := hN p j hp hj4
    by_cases c9 : 0 < G p j + G j p
    · obtain ⟨z1, z2⟩ := hcl j (by omega) (hn.mp c9)
      obtain ⟨c, hc0⟩ : ∃ c : Nat, cl j = (c : Int) := ⟨(cl j).toNat, by omega⟩
      have hc : c < 15 := by omega
      refine pe_go (pc := 1056) rfl (s_iload rfl) ?_
      refine pe_go (pc := 1058) rfl (s_iload rfl) ?_
      refine pe_go rfl (s_icmp_ge_f ⟨by omega, by omega⟩ ⟨by omega, by omega⟩ (by omega)) ?_
      refine pe_go (pc := 1063) rfl (s_iload rfl) ?_
      refine pe_go (pc := 1065) rfl (s_aload rfl) ?_
      refine pe_go (pc := 1067) rfl (s_iload rfl) ?_
      refine pe_go (pc := 1069) rfl (s_aald hT9.1 (k := p) (by omega) (by omega) efp) ?_
      refine pe_go (pc := 1070) rfl (s_iload rfl) ?_
      refine pe_go (pc := 1072) rfl (s_iald (n := 40) (f := G p) (v := G p j) hrp (k := j) (by omega) (by omega) (by decide) rfl) ?_
      refine pe_go (pc := 1073) rfl (s_aload rfl) ?_
      refine pe_go (pc := 1075) rfl (s_iload rfl) ?_
      refine pe_go (pc := 1077) rfl (s_aald hT9.1 (k := j) (by omega) (by omega) efj) ?_
      refine pe_go (pc := 1078) rfl (s_iload rfl) ?_
      refine pe_go (pc := 1080) rfl (s_iald (n := 40) (f := G j) (v := G j p) hrj (k := p) (by omega) (by omega) (by decide) rfl) ?_
      refine pe_go (pc := 1081) rfl s_iadd ?_
      refine pe_go rfl (s_if_le_f ⟨by omega, by omega⟩ (by omega)) ?_
      refine pe_go (pc := 1085) rfl (s_iconst (z := 1) rfl) ?_
      refine pe_go (pc := 1086) rfl (s_aload rfl) ?_
      refine pe_go (pc := 1088) rfl (s_iload rfl) ?_
      refine pe_go (pc := 1090) rfl (s_iald (n := 40) (f := cl) (v := (c : Int)) he (k := j) (by omega) (by omega) (by decide) hc0) ?_
      refine pe_go (pc := 1091) rfl s_ishl ?_
      rw [shl15 hc]
      refine pe_go (pc := 1092) rfl s_goto ?_
      refine pe_go (pc := 1096) rfl s_ior ?_
      rw [or_nat]
      refine pe_go (pc := 1097) rfl (s_istore (lv' := [(14, .int (iI ((u ||| 2 ^ c : Nat) : Int))), (15, .int (iI (j : Int))), (13, .int (iI (p : Int))), (12, .int (iI mx)), (11, .ref e), (10, .ref g), (9, .ref q), (8, .int (iI x8)), (7, .int (iI x7)), (6, .int (iI x6)), (5, .int (iI x5)), (4, .int (iI x4)), (3, .int (iI x3)), (2, .int (iI (T : Int))), (0, .ref b), (1, .ref a)]) rfl) ?_
      refine pe_go (pc := 1099) rfl (s_iinc (x := (j : Int)) (y := ((j + 1 : Nat) : Int)) rfl (by omega) (lv' := [(15, .int (iI ((j + 1 : Nat) : Int))), (14, .int (iI ((u ||| 2 ^ c : Nat) : Int))), (13, .int (iI (p : Int))), (12, .int (iI mx)), (11, .ref e), (10, .ref g), (9, .ref q), (8, .int (iI x8)), (7, .int (iI x7)), (6, .int (iI x6)), (5, .int (iI x5)), (4, .int (iI x4)), (3, .int (iI x3)), (2, .int (iI (T : Int))), (0, .ref b), (1, .ref a)]) rfl) ?_
      refine pe_go (pc := 1102) rfl s_goto ?_
      refine pe_few (lv := [(15, .int (iI ((j + 1 : Nat) : Int))), (14, .int (iI ((u ||| 2 ^ c : Nat) : Int))), (13, .int (iI (p : Int))), (12, .int (iI mx)), (11, .ref e), (10, .ref g), (9, .ref q), (8, .int (iI x8)), (7, .int (iI x7)), (6, .int (iI x6)), (5, .int (iI x5)), (4, .int (iI x4)), (3, .int (iI x3)), (2, .int (iI (T : Int))), (0, .ref b), (1, .ref a)]) rfl rfl (by intro q hq; simp only [List.mem_cons, List.not_mem_nil, or_false] at hq; rcases hq with rfl | rfl | rfl | rfl | rfl | rfl | rfl | rfl | rfl | rfl | rfl | rfl | rfl | rfl | rfl | rfl <;> rfl) ?_
      refine ih (j + 1) (u ||| 2 ^ c) (by omega) (Nat.or_lt_two_pow (n := 15) hu (Nat.pow_lt_pow_right (by decide) hc)) (fun c8 h8 => ?_)
      rw [Nat.testBit_or, Bool.or_eq_true, hb c8 h8, Nat.testBit_two_pow, decide_eq_true_iff]
      constructor
      · rintro (⟨q9, q1, q2, q3⟩ | e9)
        · exact ⟨q9, by omega, q2, q3⟩
        · exact ⟨j, by omega, hn.mp c9, by omega⟩
      · rintro ⟨q9, q1, q2, q3⟩
        by_cases e9 : q9 = j
        · subst e9; exact Or.inr (by omega)
        · exact Or.inl ⟨q9, by omega, q2, q3⟩
    · skip
      refine pe_go (pc := 1056) rfl (s_iload rfl) ?_
      refine pe_go (pc := 1058) rfl (s_iload rfl) ?_
      refine pe_go rfl (s_icmp_ge_f ⟨by omega, by omega⟩ ⟨by omega, by omega⟩ (by omega)) ?_
      refine pe_go (pc := 1063) rfl (s_iload rfl) ?_
      refine pe_go (pc := 1065) rfl (s_aload rfl) ?_
      refine pe_go (pc := 1067) rfl (s_iload rfl) ?_
      refine pe_go (pc := 1069) rfl (s_aald hT9.1 (k := p) (by omega) (by omega) efp) ?_
      refine pe_go (pc := 1070) rfl (s_iload rfl) ?_
      refine pe_go (pc := 1072) rfl (s_iald (n := 40) (f := G p) (v := G p j) hrp (k := j) (by omega) (by omega) (by decide) rfl) ?_
      refine pe_go (pc := 1073) rfl (s_aload rfl) ?_
      refine pe_go (pc := 1075) rfl (s_iload rfl) ?_
      refine pe_go (pc := 1077) rfl (s_aald hT9.1 (k := j) (by omega) (by omega) efj) ?_
      refine pe_go (pc := 1078) rfl (s_iload rfl) ?_
      refine pe_go (pc := 1080) rfl (s_iald (n := 40) (f := G j) (v := G j p) hrj (k := p) (by omega) (by omega) (by decide) rfl) ?_
      refine pe_go (pc := 1081) rfl s_iadd ?_
      refine pe_go rfl (s_if_le_t ⟨by omega, by omega⟩ (by omega)) ?_
      refine pe_go (pc := 1095) rfl (s_iconst (z := 0) rfl) ?_
      refine pe_go (pc := 1096) rfl s_ior ?_
      rw [or_nat0]
      refine pe_go (pc := 1097) rfl (s_istore (lv' := [(14, .int (iI (u : Int))), (15, .int (iI (j : Int))), (13, .int (iI (p : Int))), (12, .int (iI mx)), (11, .ref e), (10, .ref g), (9, .ref q), (8, .int (iI x8)), (7, .int (iI x7)), (6, .int (iI x6)), (5, .int (iI x5)), (4, .int (iI x4)), (3, .int (iI x3)), (2, .int (iI (T : Int))), (0, .ref b), (1, .ref a)]) rfl) ?_
      refine pe_go (pc := 1099) rfl (s_iinc (x := (j : Int)) (y := ((j + 1 : Nat) : Int)) rfl (by omega) (lv' := [(15, .int (iI ((j + 1 : Nat) : Int))), (14, .int (iI (u : Int))), (13, .int (iI (p : Int))), (12, .int (iI mx)), (11, .ref e), (10, .ref g), (9, .ref q), (8, .int (iI x8)), (7, .int (iI x7)), (6, .int (iI x6)), (5, .int (iI x5)), (4, .int (iI x4)), (3, .int (iI x3)), (2, .int (iI (T : Int))), (0, .ref b), (1, .ref a)]) rfl) ?_
      refine pe_go (pc := 1102) rfl s_goto ?_
      refine pe_few (lv := [(15, .int (iI ((j + 1 : Nat) : Int))), (14, .int (iI (u : Int))), (13, .int (iI (p : Int))), (12, .int (iI mx)), (11, .ref e), (10, .ref g), (9, .ref q), (8, .int (iI x8)), (7, .int (iI x7)), (6, .int (iI x6)), (5, .int (iI x5)), (4, .int (iI x4)), (3, .int (iI x3)), (2, .int (iI (T : Int))), (0, .ref b), (1, .ref a)]) rfl rfl (by intro q hq; simp only [List.mem_cons, List.not_mem_nil, or_false] at hq; rcases hq with rfl | rfl | rfl | rfl | rfl | rfl | rfl | rfl | rfl | rfl | rfl | rfl | rfl | rfl | rfl | rfl <;> rfl) ?_
      refine ih (j + 1) u (by omega) hu (fun c8 h8 => ?_)
      rw [hb c8 h8]
      constructor
      · rintro ⟨q9, q1, q2, q3⟩; exact ⟨q9, by omega, q2, q3⟩
      · rintro ⟨q9, q1, q2, q3⟩
        have : q9 ≠ j := fun e9 => c9 (hn.mpr (e9 ▸ q2))
        exact ⟨q9, by omega, q2, q3⟩
