/-! THE MACHINE FOR THE KERNEL: what its numbers, polynomials and bounds mean. By hand. -/
def evM (ρ : Nat → Int) (m : zM) : Int := m.foldr (fun v a => ρ v * a) 1
def evP (ρ : Nat → Int) (p : zP) : Int := p.foldr (fun t a => t.1 * evM ρ t.2 + a) 0
theorem evM_cons {ρ : Nat → Int} {v : Nat} {m : zM} : evM ρ (v :: m) = ρ v * evM ρ m := rfl
theorem evP_cons {ρ : Nat → Int} {t : Int × zM} {p : zP} : evP ρ (t :: p) = t.1 * evM ρ t.2 + evP ρ p := rfl
theorem zMeq_ok : ∀ {a b : zM}, zMeq a b = true → a = b := by
  intro a
  induction a with
  | nil => intro b h; cases b with
    | nil => rfl
    | cons y b => cases h
  | cons x a ih => intro b h; cases b with
    | nil => cases h
    | cons y b =>
      unfold zMeq at h
      rw [Bool.and_eq_true] at h
      rw [pBeq h.1, ih h.2]
theorem zIz_ok {z : Int} (h : zIz z = true) : z = 0 := by
  unfold zIz at h
  split at h
  · rename_i n
    rw [pBeq h]
    rfl
  · cases h
theorem zIneg_t {z : Int} (h : zIneg z = true) : z < 0 := by
  unfold zIneg at h
  split at h
  · cases h
  · exact Int.negSucc_lt_zero _
theorem zIneg_f {z : Int} (h : zIneg z = false) : 0 ≤ z := by
  unfold zIneg at h
  split at h
  · exact Int.natCast_nonneg _
  · cases h
theorem zIpos_t {z : Int} (h : zIpos z = true) : 0 < z := by
  unfold zIpos at h
  split at h
  · rename_i n
    rcases n with _ | n
    · cases h
    · exact Int.natCast_pos.mpr (Nat.succ_pos n)
  · cases h
theorem zIpos_f {z : Int} (h : zIpos z = false) : z ≤ 0 := by
  unfold zIpos at h
  split at h
  · rename_i n
    rcases n with _ | n
    · exact Int.le_refl _
    · cases h
  · exact Int.le_of_lt (Int.negSucc_lt_zero _)
theorem zLe_ok {a b : Int} (h : zLe a b = true) : a ≤ b := by
  unfold zLe at h
  rw [Bool.not_eq_true'] at h
  have := zIneg_f h
  omega
theorem evM_ins {ρ : Nat → Int} {v : Nat} {m : zM} : evM ρ (zMins v m) = ρ v * evM ρ m := by
  induction m with
  | nil => rfl
  | cons x m ih =>
    unfold zMins
    cases Nat.ble v x with
    | true => rfl
    | false =>
      show evM ρ (x :: zMins v m) = _
      rw [evM_cons, evM_cons, ih, Int.mul_left_comm]
theorem evM_mul {ρ : Nat → Int} {a b : zM} : evM ρ (zMmul a b) = evM ρ a * evM ρ b := by
  induction a with
  | nil => exact (Int.one_mul _).symm
  | cons v a ih =>
    unfold zMmul
    rw [evM_ins, ih, evM_cons, Int.mul_assoc]
theorem evP_ins {ρ : Nat → Int} {c : Int} {m : zM} {p : zP} : evP ρ (zIns c m p) = c * evM ρ m + evP ρ p := by
  induction p with
  | nil =>
    unfold zIns
    cases h : zIz c with
    | true =>
      rw [zIz_ok h, Int.zero_mul]
      rfl
    | false => rfl
  | cons t p ih =>
    unfold zIns
    cases h : zMeq m t.2 with
    | true =>
      have e := zMeq_ok h
      cases h2 : zIz (c + t.1) with
      | true =>
        have e2 := zIz_ok h2
        show evP ρ p = _
        rw [evP_cons, e]
        have : c * evM ρ t.2 + t.1 * evM ρ t.2 = 0 := by rw [← Int.add_mul, e2, Int.zero_mul]
        omega
      | false =>
        show evP ρ ((c + t.1, m) :: p) = _
        rw [evP_cons, evP_cons, e]
        show (c + t.1) * evM ρ t.2 + _ = _
        rw [Int.add_mul]
        omega
    | false =>
      cases zMlt m t.2 with
      | true => rfl
      | false =>
        show evP ρ (t :: zIns c m p) = _
        rw [evP_cons, evP_cons, ih]
        omega
theorem evP_add {ρ : Nat → Int} {p q : zP} : evP ρ (zAdd p q) = evP ρ p + evP ρ q := by
  induction p with
  | nil => exact (Int.zero_add _).symm
  | cons t p ih =>
    unfold zAdd
    rw [evP_ins, ih, evP_cons]
    omega
theorem evP_tm {ρ : Nat → Int} {c : Int} {m : zM} {q r : zP} : evP ρ (zTm c m q r) = c * evM ρ m * evP ρ q + evP ρ r := by
  induction q with
  | nil =>
    show evP ρ r = c * evM ρ m * 0 + evP ρ r
    rw [Int.mul_zero, Int.zero_add]
  | cons t q ih =>
    unfold zTm
    rw [evP_ins, ih, evP_cons, evM_mul, Int.mul_add, ← Int.add_assoc]
    congr 2
    rw [Int.mul_assoc, Int.mul_assoc, Int.mul_left_comm t.1]
theorem evP_mul {ρ : Nat → Int} {p q : zP} : evP ρ (zMul p q) = evP ρ p * evP ρ q := by
  induction p with
  | nil => exact (Int.zero_mul _).symm
  | cons t p ih =>
    unfold zMul
    rw [evP_tm, ih, evP_cons, Int.add_mul]
theorem evP_sub {ρ : Nat → Int} {p q : zP} : evP ρ (zSub p q) = evP ρ p - evP ρ q := by
  unfold zSub
  rw [evP_tm]
  have : evM ρ [] = 1 := rfl
  rw [this]
  omega
-- bounds
def sgOK (s : zSgn) (z : Int) : Prop := (z < 0 → s.1 = true) ∧ (z = 0 → s.2.1 = true) ∧ (0 < z → s.2.2 = true)
def okD (ρ : Nat → Int) (D : zD) : Prop := (∀ v, (zBv D v).1 ≤ ρ v ∧ ρ v ≤ (zBv D v).2) ∧ ∀ e, e ∈ D.2 → sgOK e.2 (evP ρ e.1)
theorem zIa_ok {z : Int} : zIa z = (z.natAbs : Int) := by
  unfold zIa
  split <;> rfl
theorem zMa_ok {ρ : Nat → Int} {D : zD} (hD : okD ρ D) {m : zM} : ((evM ρ m).natAbs : Int) ≤ zMa D m := by
  induction m with
  | nil => exact Int.le_refl _
  | cons v m ih =>
    rw [evM_cons, Int.natAbs_mul]
    unfold zMa
    obtain ⟨h1, h2⟩ := hD.1 v
    have h3 : ((ρ v).natAbs : Int) ≤ (bif zLe (zIa (zBv D v).1) (zIa (zBv D v).2) then zIa (zBv D v).2 else zIa (zBv D v).1) := by
      rw [zIa_ok, zIa_ok]
      cases h : zLe ((zBv D v).1.natAbs : Int) ((zBv D v).2.natAbs : Int) with
      | true =>
        have := zLe_ok h
        show _ ≤ ((zBv D v).2.natAbs : Int)
        omega
      | false =>
        unfold zLe at h
        rw [Bool.not_eq_false'] at h
        have := zIneg_t h
        show _ ≤ ((zBv D v).1.natAbs : Int)
        omega
    rw [Int.natCast_mul]
    exact Int.mul_le_mul h3 ih (Int.natCast_nonneg _) (Int.le_trans (Int.natCast_nonneg _) h3)
theorem zMp_ok {ρ : Nat → Int} {D : zD} (hD : okD ρ D) : ∀ {m : zM} {x : Int × Int}, zMp D m = some x → 0 ≤ x.1 ∧ x.1 ≤ evM ρ m ∧ evM ρ m ≤ x.2 := by
  intro m
  induction m with
  | nil =>
    intro x h
    cases h
    exact ⟨by decide, Int.le_refl _, Int.le_refl _⟩
  | cons v m ih =>
    intro x h
    unfold zMp at h
    cases hn : zIneg (zBv D v).1 with
    | true => rw [hn] at h; cases h
    | false =>
      rw [hn, cond_false] at h
      have h0 := zIneg_f hn
      obtain ⟨h1, h2⟩ := hD.1 v
      split at h
      · rename_i y hy
        cases h
        obtain ⟨g0, g1, g2⟩ := ih hy
        refine ⟨Int.mul_nonneg h0 g0, ?_, ?_⟩
        · rw [evM_cons]
          exact Int.mul_le_mul h1 g1 g0 (Int.le_trans h0 h1)
        · rw [evM_cons]
          exact Int.mul_le_mul h2 g2 (Int.le_trans g0 g1) (Int.le_trans h0 (Int.le_trans h1 h2))
      · cases h
theorem zMb_ok {ρ : Nat → Int} {D : zD} (hD : okD ρ D) {m : zM} : (zMb D m).1 ≤ evM ρ m ∧ evM ρ m ≤ (zMb D m).2 := by
  unfold zMb
  split
  · exact ⟨Int.le_refl _, Int.le_refl _⟩
  · rename_i v
    obtain ⟨h1, h2⟩ := hD.1 v
    have e : evM ρ [v] = ρ v := Int.mul_one _
    rw [e]
    exact ⟨h1, h2⟩
  · split
    · rename_i x hx
      obtain ⟨g0, g1, g2⟩ := zMp_ok hD hx
      exact ⟨g1, g2⟩
    · have := zMa_ok hD (m := m)
      show -(zMa D m) ≤ evM ρ m ∧ evM ρ m ≤ zMa D m
      omega
theorem zPb_ok {ρ : Nat → Int} {D : zD} (hD : okD ρ D) {p : zP} : (zPb D p).1 ≤ evP ρ p ∧ evP ρ p ≤ (zPb D p).2 := by
  induction p with
  | nil => exact ⟨Int.le_refl _, Int.le_refl _⟩
  | cons t p ih =>
    obtain ⟨g1, g2⟩ := zMb_ok hD (m := t.2)
    obtain ⟨h1, h2⟩ := ih
    unfold zPb
    rw [evP_cons]
    cases hn : zIneg t.1 with
    | true =>
      have h0 := zIneg_t hn
      have k1 := Int.mul_le_mul_of_nonpos_left (Int.le_of_lt h0) g1
      have k2 := Int.mul_le_mul_of_nonpos_left (Int.le_of_lt h0) g2
      exact ⟨Int.add_le_add k2 h1, Int.add_le_add k1 h2⟩
    | false =>
      have h0 := zIneg_f hn
      have k1 := Int.mul_le_mul_of_nonneg_left g1 h0
      have k2 := Int.mul_le_mul_of_nonneg_left g2 h0
      exact ⟨Int.add_le_add k1 h1, Int.add_le_add k2 h2⟩
theorem zPeq_ok : ∀ {p q : zP}, zPeq p q = true → p = q := by
  intro p
  induction p with
  | nil => intro q h; cases q with
    | nil => rfl
    | cons u q => cases h
  | cons t p ih => intro q h; cases q with
    | nil => cases h
    | cons u q =>
      unfold zPeq at h
      rw [Bool.and_eq_true, Bool.and_eq_true] at h
      have e1 := zIz_ok h.1.1
      have e2 := zMeq_ok h.1.2
      have e3 := ih h.2
      have e4 : t = u := by
        obtain ⟨a, b⟩ := t
        obtain ⟨c, d⟩ := u
        have e1 : a - c = 0 := e1
        have e2 : b = d := e2
        rw [e2, show a = c by omega]
      rw [e4, e3]
theorem zLook_ok : ∀ {T : List (zP × zSgn)} {p : zP} {s : zSgn}, zLook T p = some s → (p, s) ∈ T := by
  intro T
  induction T with
  | nil => intro p s h; cases h
  | cons e T ih =>
    intro p s h
    unfold zLook at h
    cases hq : zPeq e.1 p with
    | true =>
      rw [hq, cond_true] at h
      cases h
      rw [← zPeq_ok hq]
      exact List.mem_cons_self
    | false =>
      rw [hq, cond_false] at h
      exact List.mem_cons_of_mem _ (ih h)
theorem zSg_ok {ρ : Nat → Int} {D : zD} (hD : okD ρ D) {p : zP} : sgOK (zSg D p) (evP ρ p) := by
  unfold zSg
  split
  · rename_i s hs
    exact hD.2 _ (zLook_ok hs)
  · obtain ⟨h1, h2⟩ := zPb_ok hD (p := p)
    refine ⟨fun h => ?_, fun h => ?_, fun h => ?_⟩
    · show zIneg (zPb D p).1 = true
      cases e : zIneg (zPb D p).1 with
      | true => rfl
      | false =>
        have := zIneg_f e
        omega
    · show (!(zIpos (zPb D p).1) && !(zIneg (zPb D p).2)) = true
      cases e : zIpos (zPb D p).1 with
      | true =>
        have := zIpos_t e
        omega
      | false =>
        cases e2 : zIneg (zPb D p).2 with
        | true =>
          have := zIneg_t e2
          omega
        | false => rfl
    · show zIpos (zPb D p).2 = true
      cases e : zIpos (zPb D p).2 with
      | true => rfl
      | false =>
        have := zIpos_f e
        omega
theorem zIn_ok {ρ : Nat → Int} {D : zD} (hD : okD ρ D) {h : Int} {p : zP} (H : zIn D h p = true) : -h ≤ evP ρ p ∧ evP ρ p < h := by
  unfold zIn at H
  rw [Bool.and_eq_true] at H
  have h1 := zLe_ok H.1
  have h2 := zLe_ok H.2
  obtain ⟨g1, g2⟩ := zPb_ok hD (p := p)
  omega
theorem zBr_t {t s : zSgn} {z : Int} (h : sgOK s z) (hb : zBr t s = some true) : (z < 0 ∧ t.1 = true) ∨ (z = 0 ∧ t.2.1 = true) ∨ (0 < z ∧ t.2.2 = true) := by
  obtain ⟨s1, s2, s3⟩ := s
  obtain ⟨t1, t2, t3⟩ := t
  obtain ⟨h1, h2, h3⟩ := h
  have h1 : z < 0 → s1 = true := h1
  have h2 : z = 0 → s2 = true := h2
  have h3 : 0 < z → s3 = true := h3
  unfold zBr at hb
  rcases pCond hb with ⟨_, hb⟩ | ⟨_, hb⟩
  · cases hb
  · rcases pCond hb with ⟨hc, _⟩ | ⟨_, hb⟩
    · have hc : ((!s1 || t1) && ((!s2 || t2) && (!s3 || t3))) = true := hc
      rw [Bool.and_eq_true, Bool.and_eq_true] at hc
      obtain ⟨c1, c2, c3⟩ := hc
      rcases Int.lt_trichotomy z 0 with g | g | g
      · rw [h1 g] at c1
        exact .inl ⟨g, c1⟩
      · rw [h2 g] at c2
        exact .inr (.inl ⟨g, c2⟩)
      · rw [h3 g] at c3
        exact .inr (.inr ⟨g, c3⟩)
    · cases hb
theorem zBr_f {t s : zSgn} {z : Int} (h : sgOK s z) (hb : zBr t s = some false) : (z < 0 ∧ t.1 = false) ∨ (z = 0 ∧ t.2.1 = false) ∨ (0 < z ∧ t.2.2 = false) := by
  obtain ⟨s1, s2, s3⟩ := s
  obtain ⟨t1, t2, t3⟩ := t
  obtain ⟨h1, h2, h3⟩ := h
  have h1 : z < 0 → s1 = true := h1
  have h2 : z = 0 → s2 = true := h2
  have h3 : 0 < z → s3 = true := h3
  unfold zBr at hb
  rcases pCond hb with ⟨hc, _⟩ | ⟨_, hb⟩
  · have hc : ((!s1 || !t1) && ((!s2 || !t2) && (!s3 || !t3))) = true := hc
    rw [Bool.and_eq_true, Bool.and_eq_true] at hc
    obtain ⟨c1, c2, c3⟩ := hc
    rcases Int.lt_trichotomy z 0 with g | g | g
    · rw [h1 g] at c1
      cases t1
      · exact .inl ⟨g, rfl⟩
      · cases c1
    · rw [h2 g] at c2
      cases t2
      · exact .inr (.inl ⟨g, rfl⟩)
      · cases c2
    · rw [h3 g] at c3
      cases t3
      · exact .inr (.inr ⟨g, rfl⟩)
      · cases c3
  · rcases pCond hb with ⟨_, hb⟩ | ⟨_, hb⟩ <;> cases hb
-- numbers
theorem i32n {m n : Nat} (h : m % 4294967296 = n % 4294967296) : Int32.ofNat m = Int32.ofNat n := by
  apply Int32.toBitVec.inj
  show BitVec.ofNat 32 m = BitVec.ofNat 32 n
  apply BitVec.eq_of_toNat_eq
  rw [BitVec.toNat_ofNat, BitVec.toNat_ofNat]
  exact h
theorem i64n {m n : Nat} (h : m % 18446744073709551616 = n % 18446744073709551616) : Int64.ofNat m = Int64.ofNat n := by
  apply Int64.toBitVec.inj
  show BitVec.ofNat 64 m = BitVec.ofNat 64 n
  apply BitVec.eq_of_toNat_eq
  rw [BitVec.toNat_ofNat, BitVec.toNat_ofNat]
  exact h
theorem i32z {z : Int} : Int32.ofInt z = Int32.ofNat (zN z) := by
  apply Int32.toBitVec.inj
  show BitVec.ofInt 32 z = BitVec.ofNat 32 (zN z)
  apply BitVec.eq_of_toNat_eq
  rw [BitVec.toNat_ofInt, BitVec.toNat_ofNat]
  unfold zN
  omega
theorem i64z {z : Int} : Int64.ofInt z = Int64.ofNat (zNl z) := by
  apply Int64.toBitVec.inj
  show BitVec.ofInt 64 z = BitVec.ofNat 64 (zNl z)
  apply BitVec.eq_of_toNat_eq
  rw [BitVec.toNat_ofInt, BitVec.toNat_ofNat]
  unfold zNl
  omega
theorem zN_lt {z : Int} : zN z < 4294967296 := by
  unfold zN
  omega
theorem zNl_lt {z : Int} : zNl z < 18446744073709551616 := by
  unfold zNl
  omega
theorem zZ_eq {n : Nat} : zZ n = if 2147483648 ≤ n then (n : Int) - 4294967296 else (n : Int) := by
  unfold zZ
  cases h : Nat.ble 2147483648 n with
  | true =>
    rw [if_pos (pBle h), cond_true, Int.subNatNat_eq_coe]
    rfl
  | false =>
    have : ¬ 2147483648 ≤ n := fun e => by rw [Nat.ble_eq_true_of_le e] at h; cases h
    rw [if_neg this]
    rfl
theorem zZl_eq {n : Nat} : zZl n = if 9223372036854775808 ≤ n then (n : Int) - 18446744073709551616 else (n : Int) := by
  unfold zZl
  cases h : Nat.ble 9223372036854775808 n with
  | true =>
    rw [if_pos (pBle h), cond_true, Int.subNatNat_eq_coe]
    rfl
  | false =>
    have : ¬ 9223372036854775808 ≤ n := fun e => by rw [Nat.ble_eq_true_of_le e] at h; cases h
    rw [if_neg this]
    rfl
theorem i32Z {n : Nat} (h : n < 4294967296) : Int32.ofNat n = Int32.ofInt (zZ n) := by
  rw [i32z]
  apply i32n
  unfold zN
  rw [zZ_eq]
  split <;> omega
theorem i64Z {n : Nat} (h : n < 18446744073709551616) : Int64.ofNat n = Int64.ofInt (zZl n) := by
  rw [i64z]
  apply i64n
  unfold zNl
  rw [zZl_eq]
  split <;> omega
theorem i32i {z : Int} (h : -2147483648 ≤ z ∧ z < 2147483648) : (Int32.ofInt z).toInt = z := Int32.toInt_ofInt_of_le (by omega) (by omega)
theorem i64i {z : Int} (h : -9223372036854775808 ≤ z ∧ z < 9223372036854775808) : (Int64.ofInt z).toInt = z := Int64.toInt_ofInt_of_le (by omega) (by omega)
theorem zZ_lt {n : Nat} (h : n < 4294967296) : -2147483648 ≤ zZ n ∧ zZ n < 2147483648 := by
  rw [zZ_eq]
  split <;> omega
theorem zZl_lt {n : Nat} (h : n < 18446744073709551616) : -9223372036854775808 ≤ zZl n ∧ zZl n < 9223372036854775808 := by
  rw [zZl_eq]
  split <;> omega
theorem i32t {n : Nat} (h : n < 4294967296) : (Int32.ofNat n).toInt = zZ n := by
  rw [i32Z h, i32i (zZ_lt h)]
theorem i64t {n : Nat} (h : n < 18446744073709551616) : (Int64.ofNat n).toInt = zZl n := by
  rw [i64Z h, i64i (zZl_lt h)]
-- values
def yV (ρ : Nat → Int) (v : zV) (c : Value) : Prop := match v with
  | .inl n => n < 4294967296 ∧ c = .int (Int32.ofNat n)
  | .inr (.inl a) => c = .ref a
  | .inr (.inr (.inl n)) => n < 18446744073709551616 ∧ c = .long (Int64.ofNat n)
  | .inr (.inr (.inr (.inl p))) => c = .int (Int32.ofInt (evP ρ p))
  | .inr (.inr (.inr (.inr (.inl p)))) => c = .long (Int64.ofInt (evP ρ p))
  | .inr (.inr (.inr (.inr (.inr _)))) => True
theorem zPi_ok {ρ : Nat → Int} {v : zV} {p : zP} {c : Value} (h : zPi v = some p) (hv : yV ρ v c) : c = .int (Int32.ofInt (evP ρ p)) := by
  unfold zPi at h
  split at h
  · rename_i n
    cases h
    obtain ⟨h1, rfl⟩ := hv
    rw [evP_ins, i32Z h1]
    have : zZ n * evM ρ [] + evP ρ [] = zZ n := by
      show zZ n * 1 + 0 = zZ n
      omega
    rw [this]
  · cases h
    exact hv
  · cases h
theorem zPl_ok {ρ : Nat → Int} {v : zV} {p : zP} {c : Value} (h : zPl v = some p) (hv : yV ρ v c) : c = .long (Int64.ofInt (evP ρ p)) := by
  unfold zPl at h
  split at h
  · rename_i n
    cases h
    obtain ⟨h1, rfl⟩ := hv
    rw [evP_ins, i64Z h1]
    have : zZl n * evM ρ [] + evP ρ [] = zZl n := by
      show zZl n * 1 + 0 = zZl n
      omega
    rw [this]
  · cases h
    exact hv
  · cases h
theorem zVi_ok {ρ : Nat → Int} {p : zP} : yV ρ (zVi p) (.int (Int32.ofInt (evP ρ p))) := by
  unfold zVi
  split
  · exact ⟨by decide, rfl⟩
  · rename_i c
    refine ⟨zN_lt, ?_⟩
    have : evP ρ [(c, [])] = c := by
      show c * 1 + 0 = c
      omega
    rw [this, i32z]
  · rfl
theorem zVl_ok {ρ : Nat → Int} {p : zP} : yV ρ (zVl p) (.long (Int64.ofInt (evP ρ p))) := by
  unfold zVl
  split
  · exact ⟨by decide, rfl⟩
  · rename_i c
    refine ⟨zNl_lt, ?_⟩
    have : evP ρ [(c, [])] = c := by
      show c * 1 + 0 = c
      omega
    rw [this, i64z]
  · rfl
theorem zII_ok {ρ : Nat → Int} {f : zP → zP → zP} {g : Int32 → Int32 → Int32} (hf : ∀ p q, Int32.ofInt (evP ρ (f p q)) = g (Int32.ofInt (evP ρ p)) (Int32.ofInt (evP ρ q))) {x y v : zV} {a b : Value} (h : zII f x y = some v) (hx : yV ρ x a) (hy : yV ρ y b) : ∃ i j : Int32, a = .int i ∧ b = .int j ∧ yV ρ v (.int (g i j)) := by
  unfold zII at h
  split at h
  · rename_i p q hp hq
    cases h
    refine ⟨_, _, zPi_ok hp hx, zPi_ok hq hy, ?_⟩
    rw [← hf]
    exact zVi_ok
  · cases h
theorem zLL_ok {ρ : Nat → Int} {f : zP → zP → zP} {g : Int64 → Int64 → Int64} (hf : ∀ p q, Int64.ofInt (evP ρ (f p q)) = g (Int64.ofInt (evP ρ p)) (Int64.ofInt (evP ρ q))) {x y v : zV} {a b : Value} (h : zLL f x y = some v) (hx : yV ρ x a) (hy : yV ρ y b) : ∃ i j : Int64, a = .long i ∧ b = .long j ∧ yV ρ v (.long (g i j)) := by
  unfold zLL at h
  split at h
  · rename_i p q hp hq
    cases h
    refine ⟨_, _, zPl_ok hp hx, zPl_ok hq hy, ?_⟩
    rw [← hf]
    exact zVl_ok
  · cases h
theorem zCmp_ok {ρ : Nat → Int} {D : zD} (hD : okD ρ D) {x y : zV} {i j : Int32} (hx : yV ρ x (.int i)) (hy : yV ρ y (.int j)) : sgOK (zCmp D x y) (i.toInt - j.toInt) := by
  unfold zCmp
  split
  · rename_i p q hp hq
    cases h : zIn D 2147483648 p && zIn D 2147483648 q with
    | false => exact ⟨fun _ => rfl, fun _ => rfl, fun _ => rfl⟩
    | true =>
      rw [Bool.and_eq_true] at h
      have e1 := zPi_ok hp hx
      have e2 := zPi_ok hq hy
      injection e1 with e1
      injection e2 with e2
      have b1 := zIn_ok hD h.1
      have b2 := zIn_ok hD h.2
      rw [e1, e2, i32i b1, i32i b2, ← evP_sub]
      exact zSg_ok hD
  · exact ⟨fun _ => rfl, fun _ => rfl, fun _ => rfl⟩
theorem zCmpl_ok {ρ : Nat → Int} {D : zD} (hD : okD ρ D) {x y : zV} {i j : Int64} (hx : yV ρ x (.long i)) (hy : yV ρ y (.long j)) : sgOK (zCmpl D x y) (i.toInt - j.toInt) := by
  unfold zCmpl
  split
  · rename_i p q hp hq
    cases h : zIn D 9223372036854775808 p && zIn D 9223372036854775808 q with
    | false => exact ⟨fun _ => rfl, fun _ => rfl, fun _ => rfl⟩
    | true =>
      rw [Bool.and_eq_true] at h
      have e1 := zPl_ok hp hx
      have e2 := zPl_ok hq hy
      injection e1 with e1
      injection e2 with e2
      have b1 := zIn_ok hD h.1
      have b2 := zIn_ok hD h.2
      rw [e1, e2, i64i b1, i64i b2, ← evP_sub]
      exact zSg_ok hD
  · exact ⟨fun _ => rfl, fun _ => rfl, fun _ => rfl⟩
