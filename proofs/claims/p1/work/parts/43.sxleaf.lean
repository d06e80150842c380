/-! THE MACHINE FOR THE KERNEL: each leaf against the plain machine's instruction. By program (wip/tools/mk43.py). -/
def zOut (ρ : Nat → Int) (T : List Nat) (nx : Nat) (K : Prop) (f : pLv → List Value → pW → Option pOut) (kn : zKn) (E : zE) (L S : List zV) (W : zW) (v : Option zV × zW) : Prop :=
  (∃ L' S' W', kn L' S' W' = some v ∧ ∀ lv st w, yL ρ L lv → yT ρ S st → yW ρ W w → ∃ lv' st' w', yL ρ L' lv' ∧ yT ρ S' st' ∧ yW ρ W' w' ∧ f lv st w = some (.inl (nx, lv', st', w'))) ∨
  (∃ t L' S' W', t ∈ T ∧ E.1 t L' S' W' = some v ∧ ∀ lv st w, yL ρ L lv → yT ρ S st → yW ρ W w → ∃ lv' st' w', yL ρ L' lv' ∧ yT ρ S' st' ∧ yW ρ W' w' ∧ f lv st w = some (.inl (t, lv', st', w'))) ∨
  (K ∧ ∃ j as S', j < 357 ∧ E.2.1 j as L S' W kn = some v ∧ ∀ lv st w, yL ρ L lv → yT ρ S st → yW ρ W w → ∃ cas st', yT ρ as cas ∧ yT ρ S' st' ∧ f lv st w = some (.inr (.inl (j, cas, st')))) ∨
  (∃ r, E.2.2 r W = some v ∧ ∀ lv st w, yL ρ L lv → yT ρ S st → yW ρ W w → ∃ cr, yO ρ r cr ∧ f lv st w = some (.inr (.inr cr))) ∨
  (K ∧ ∃ S' W', kn L S' W' = some v ∧ ∀ lv st w, yL ρ L lv → yT ρ S st → yW ρ W w → ∃ j cas st' r w', f lv st w = some (.inr (.inl (j, cas, st'))) ∧ pRun j cas w r w' ∧ yT ρ S' (r.toList ++ st') ∧ yW ρ W' w')
def zS (ρ : Nat → Int) (T : List Nat) (nx : Nat) (K : Prop) (f : pLv → List Value → pW → Option pOut) (x : zF) : Prop := ∀ kn E L S W v, x kn E L S W = some v → zOut ρ T nx K f kn E L S W v
theorem yT_k {ρ : Nat → Int} {v : zV} {c : Value} {S : List zV} {st : List Value} (h : yV ρ v c) (hT : yT ρ S st) : yT ρ (v :: S) (c :: st) := ⟨h, hT⟩
theorem zNf_ok {t : Nat} {f : Nat → zR} {v : Option zV × zW} (h : zNf t f = some v) : f t = some v := by
  cases t <;> exact h
theorem zBi {c : Bool} {x y : zR} {v : Option zV × zW} (h : zIf c x y = some v) : (c = false ∧ x = some v) ∨ (c = true ∧ y = some v) := zB h
section LEAF
variable {ρ : Nat → Int} {T : List Nat} {nx : Nat} {K : Prop}
theorem zs_bad {f : pLv → List Value → pW → Option pOut} : zS ρ T nx K f zq_bad := fun _ _ _ _ _ _ h => by cases h
theorem zs_k {n : Nat} (hn : n < 4294967296) : zS ρ T nx K (fun lv st w => pGo1 nx lv (.int (Int32.ofNat n) :: st) w) (zq_k n) := fun kn E L S W v h => .inl ⟨L, _, W, h, fun lv st w hL hT hW => ⟨lv, _, w, hL, yT_k ⟨hn, rfl⟩ hT, hW, rfl⟩⟩
theorem zs_kl {n : Nat} (hn : n < 18446744073709551616) : zS ρ T nx K (fun lv st w => pGo1 nx lv (.long (Int64.ofNat n) :: st) w) (zq_kl n) := fun kn E L S W v h => .inl ⟨L, _, W, h, fun lv st w hL hT hW => ⟨lv, _, w, hL, yT_k ⟨hn, rfl⟩ hT, hW, rfl⟩⟩
theorem zs_ild {i : Nat} : zS ρ T nx K (fun lv st w => pLd1 nx lv st w (pGet lv i)) (zq_ild i) := by
  intro kn E L S W v h
  obtain ⟨a, hg, h⟩ := zGetK_ok h
  obtain ⟨h, ht⟩ := zTi_ok h
  refine .inl ⟨_, _, _, h, fun lv st w hL hT hW => ?_⟩
  rcases hL i a hg with e | ⟨c, g1, g2⟩
  · subst e
    obtain ⟨i, hi⟩ := ht ρ (.ref 0) trivial
    cases hi
  · obtain ⟨x, rfl⟩ := ht ρ c g2
    refine ⟨lv, _, w, hL, yT_k g2 hT, hW, ?_⟩
    show pLd1 nx lv st w (pGet lv i) = _
    rw [g1]
    rfl
theorem zs_lld {i : Nat} : zS ρ T nx K (fun lv st w => pLdL nx lv st w (pGet lv i)) (zq_lld i) := by
  intro kn E L S W v h
  obtain ⟨a, hg, h⟩ := zGetK_ok h
  obtain ⟨h, ht⟩ := zTl_ok h
  refine .inl ⟨_, _, _, h, fun lv st w hL hT hW => ?_⟩
  rcases hL i a hg with e | ⟨c, g1, g2⟩
  · subst e
    obtain ⟨i, hi⟩ := ht ρ (.ref 0) trivial
    cases hi
  · obtain ⟨x, rfl⟩ := ht ρ c g2
    refine ⟨lv, _, w, hL, yT_k g2 hT, hW, ?_⟩
    show pLdL nx lv st w (pGet lv i) = _
    rw [g1]
    rfl
theorem zs_ald {i : Nat} : zS ρ T nx K (fun lv st w => pLdA nx lv st w (pGet lv i)) (zq_ald i) := by
  intro kn E L S W v h
  obtain ⟨a, hg, h⟩ := zGetK_ok h
  obtain ⟨h, ht⟩ := zTr_ok h
  refine .inl ⟨_, _, _, h, fun lv st w hL hT hW => ?_⟩
  rcases hL i a hg with e | ⟨c, g1, g2⟩
  · subst e
    obtain ⟨i, hi⟩ := ht ρ (.int 0) trivial
    cases hi
  · obtain ⟨x, rfl⟩ := ht ρ c g2
    refine ⟨lv, _, w, hL, yT_k g2 hT, hW, ?_⟩
    show pLdA nx lv st w (pGet lv i) = _
    rw [g1]
    rfl
theorem zs_ist {i : Nat} : zS ρ T nx K (fun lv st w => pSt1 nx lv i st w) (zq_ist i) := by
  intro kn E L S W v h
  obtain ⟨a, S, rfl, h⟩ := zL0 h
  obtain ⟨h, ht⟩ := zTi_ok h
  obtain ⟨L', h, hs⟩ := zSet1_ok h
  refine .inl ⟨_, _, _, h, fun lv st w hL hT hW => ?_⟩
  obtain ⟨c, st, rfl, hc, hq⟩ := yT_c hT
  clear hT
  have hT := hq
  clear hq
  obtain ⟨x, rfl⟩ := ht ρ c hc
  exact ⟨_, st, w, yL_st1 hL hc hs, hT, hW, rfl⟩
theorem zs_lst {i : Nat} : zS ρ T nx K (fun lv st w => pStL nx lv i st w) (zq_lst i) := by
  intro kn E L S W v h
  obtain ⟨a, S, rfl, h⟩ := zL0 h
  obtain ⟨h, ht⟩ := zTl_ok h
  obtain ⟨L', h, hs⟩ := zSet2_ok h
  refine .inl ⟨_, _, _, h, fun lv st w hL hT hW => ?_⟩
  obtain ⟨c, st, rfl, hc, hq⟩ := yT_c hT
  clear hT
  have hT := hq
  clear hq
  obtain ⟨x, rfl⟩ := ht ρ c hc
  exact ⟨_, st, w, yL_st2 hL hc hs, hT, hW, rfl⟩
theorem zs_ast {i : Nat} : zS ρ T nx K (fun lv st w => pStA nx lv i st w) (zq_ast i) := by
  intro kn E L S W v h
  obtain ⟨a, S, rfl, h⟩ := zL0 h
  obtain ⟨h, ht⟩ := zTr_ok h
  obtain ⟨L', h, hs⟩ := zSet1_ok h
  refine .inl ⟨_, _, _, h, fun lv st w hL hT hW => ?_⟩
  obtain ⟨c, st, rfl, hc, hq⟩ := yT_c hT
  clear hT
  have hT := hq
  clear hq
  obtain ⟨x, rfl⟩ := ht ρ c hc
  exact ⟨_, st, w, yL_st1 hL hc hs, hT, hW, rfl⟩
theorem zs_inc {k : Nat} {n : Int} : zS ρ T nx K (fun lv st w => pInc nx lv k n st w) (zq_inc k (zN n)) := by
  intro kn E L S W v h
  obtain ⟨a, hg, h⟩ := zGetK_ok h
  rcases zS2 h with ⟨m, rfl, g⟩ | ⟨z, rfl, h⟩
  · have h := zNf_ok g
    obtain ⟨L', h, hs⟩ := zSet1_ok h
    refine .inl ⟨_, _, _, h, fun lv st w hL hT hW => ?_⟩
    rcases hL k _ hg with e | ⟨c, g1, hm, rfl⟩
    · cases e
    · have hv : yV ρ (.inl (Nat.mod (Nat.add m (zN n)) 4294967296)) (.int (Int32.ofNat m + Int32.ofInt n)) := by
        refine ⟨Nat.mod_lt _ (by decide), congrArg Value.int ?_⟩
        rw [i32z, ← Int32.ofNat_add]
        apply i32n
        exact (Nat.mod_mod _ _).symm
      refine ⟨_, st, w, yL_st1 hL hv hs, hT, hW, ?_⟩
      show pInc nx lv k n st w = _
      unfold pInc
      rw [g1]
      rfl
  · obtain ⟨u, e, h⟩ := zO0 h
    obtain ⟨L', h, hs⟩ := zSet1_ok h
    refine .inl ⟨_, _, _, h, fun lv st w hL hT hW => ?_⟩
    rcases hL k _ hg with e2 | ⟨c, g1, g2⟩
    · have e2 : z = .inr (.inr (.inr (.inr ()))) := by injection e2
      subst e2
      cases e
    · obtain ⟨i, j, rfl, e3, hv⟩ := zII_ok (g := fun x y => x + y) (fun p q => by rw [evP_add, Int32.ofInt_add]) e g2 (show yV ρ (.inl (zN n)) (.int (Int32.ofInt n)) from ⟨zN_lt, congrArg Value.int i32z⟩)
      injection e3 with e3
      subst e3
      refine ⟨_, st, w, yL_st1 hL hv hs, hT, hW, ?_⟩
      show pInc nx lv k n st w = _
      unfold pInc
      rw [g1]
      rfl
theorem n32_add {m n : Nat} : Int32.ofNat m + Int32.ofNat n = Int32.ofNat (Nat.mod (Nat.add m n) 4294967296) := by
  rw [← Int32.ofNat_add]
  exact i32n (Nat.mod_mod _ _).symm
theorem n32_mul {m n : Nat} : Int32.ofNat m * Int32.ofNat n = Int32.ofNat (Nat.mod (Nat.mul m n) 4294967296) := by
  rw [← Int32.ofNat_mul]
  exact i32n (Nat.mod_mod _ _).symm
theorem n32_sub {m n : Nat} (h : n < 4294967296) : Int32.ofNat m - Int32.ofNat n = Int32.ofNat (Nat.mod (Nat.add m (Nat.sub 4294967296 n)) 4294967296) := by
  rw [← Int32.ofInt_eq_ofNat, ← Int32.ofInt_eq_ofNat, ← Int32.ofInt_sub, i32z]
  apply i32n
  unfold zN
  show _ = (m + (4294967296 - n)) % 4294967296 % 4294967296
  omega
theorem n64_add {m n : Nat} : Int64.ofNat m + Int64.ofNat n = Int64.ofNat (Nat.mod (Nat.add m n) 18446744073709551616) := by
  rw [← Int64.ofNat_add]
  exact i64n (Nat.mod_mod _ _).symm
theorem n64_mul {m n : Nat} : Int64.ofNat m * Int64.ofNat n = Int64.ofNat (Nat.mod (Nat.mul m n) 18446744073709551616) := by
  rw [← Int64.ofNat_mul]
  exact i64n (Nat.mod_mod _ _).symm
theorem n64_sub {m n : Nat} (h : n < 18446744073709551616) : Int64.ofNat m - Int64.ofNat n = Int64.ofNat (Nat.mod (Nat.add m (Nat.sub 18446744073709551616 n)) 18446744073709551616) := by
  rw [← Int64.ofInt_eq_ofNat, ← Int64.ofInt_eq_ofNat, ← Int64.ofInt_sub, i64z]
  apply i64n
  unfold zNl
  show _ = (m + (18446744073709551616 - n)) % 18446744073709551616 % 18446744073709551616
  omega
theorem zs_add : zS ρ T nx K (fun lv st w => pII nx lv st w (fun x y => .int (x + y))) zq_add := by
  intro kn E L S W v h
  obtain ⟨y, S, rfl, h⟩ := zL0 h
  obtain ⟨x, S, rfl, h⟩ := zL0 h
  have slow : ∀ u, zII zAdd x y = some u → kn L (u :: S) W = some v → zOut ρ T nx K (fun lv st w => pII nx lv st w (fun x y => .int (x + y))) kn E L (y :: x :: S) W v := by
    intro u e h
    refine .inl ⟨_, _, _, h, fun lv st w hL hT hW => ?_⟩
    obtain ⟨b, st, rfl, hb, hq⟩ := yT_c hT
    clear hT
    have hT := hq
    clear hq
    obtain ⟨a, st, rfl, ha, hq⟩ := yT_c hT
    clear hT
    have hT := hq
    clear hq
    obtain ⟨i, j, rfl, rfl, hv⟩ := zII_ok (g := fun x y => x + y) (fun p q => by rw [evP_add, Int32.ofInt_add]) e ha hb
    exact ⟨lv, _, w, hL, yT_k hv hT, hW, rfl⟩
  rcases zS2 h with ⟨m, rfl, h⟩ | ⟨z, rfl, h⟩
  · rcases zS2 h with ⟨n, rfl, g⟩ | ⟨z, rfl, h⟩
    · have h := zNf_ok g
      refine .inl ⟨_, _, _, h, fun lv st w hL hT hW => ?_⟩
      obtain ⟨b, st, rfl, ⟨hn, rfl⟩, hq⟩ := yT_c hT
      clear hT
      have hT := hq
      clear hq
      obtain ⟨a, st, rfl, ⟨hm, rfl⟩, hq⟩ := yT_c hT
      clear hT
      have hT := hq
      clear hq
      exact ⟨lv, _, w, hL, yT_k ⟨Nat.mod_lt _ (by decide), congrArg Value.int (n32_add)⟩ hT, hW, rfl⟩
    · obtain ⟨u, e, h⟩ := zOp_ok h
      exact slow u e h
  · obtain ⟨u, e, h⟩ := zOp_ok h
    exact slow u e h
theorem zs_sub : zS ρ T nx K (fun lv st w => pII nx lv st w (fun x y => .int (x - y))) zq_sub := by
  intro kn E L S W v h
  obtain ⟨y, S, rfl, h⟩ := zL0 h
  obtain ⟨x, S, rfl, h⟩ := zL0 h
  have slow : ∀ u, zII zSub x y = some u → kn L (u :: S) W = some v → zOut ρ T nx K (fun lv st w => pII nx lv st w (fun x y => .int (x - y))) kn E L (y :: x :: S) W v := by
    intro u e h
    refine .inl ⟨_, _, _, h, fun lv st w hL hT hW => ?_⟩
    obtain ⟨b, st, rfl, hb, hq⟩ := yT_c hT
    clear hT
    have hT := hq
    clear hq
    obtain ⟨a, st, rfl, ha, hq⟩ := yT_c hT
    clear hT
    have hT := hq
    clear hq
    obtain ⟨i, j, rfl, rfl, hv⟩ := zII_ok (g := fun x y => x - y) (fun p q => by rw [evP_sub, Int32.ofInt_sub]) e ha hb
    exact ⟨lv, _, w, hL, yT_k hv hT, hW, rfl⟩
  rcases zS2 h with ⟨m, rfl, h⟩ | ⟨z, rfl, h⟩
  · rcases zS2 h with ⟨n, rfl, g⟩ | ⟨z, rfl, h⟩
    · have h := zNf_ok g
      refine .inl ⟨_, _, _, h, fun lv st w hL hT hW => ?_⟩
      obtain ⟨b, st, rfl, ⟨hn, rfl⟩, hq⟩ := yT_c hT
      clear hT
      have hT := hq
      clear hq
      obtain ⟨a, st, rfl, ⟨hm, rfl⟩, hq⟩ := yT_c hT
      clear hT
      have hT := hq
      clear hq
      exact ⟨lv, _, w, hL, yT_k ⟨Nat.mod_lt _ (by decide), congrArg Value.int (n32_sub hn)⟩ hT, hW, rfl⟩
    · obtain ⟨u, e, h⟩ := zOp_ok h
      exact slow u e h
  · obtain ⟨u, e, h⟩ := zOp_ok h
    exact slow u e h
theorem zs_mul : zS ρ T nx K (fun lv st w => pII nx lv st w (fun x y => .int (x * y))) zq_mul := by
  intro kn E L S W v h
  obtain ⟨y, S, rfl, h⟩ := zL0 h
  obtain ⟨x, S, rfl, h⟩ := zL0 h
  have slow : ∀ u, zII zMul x y = some u → kn L (u :: S) W = some v → zOut ρ T nx K (fun lv st w => pII nx lv st w (fun x y => .int (x * y))) kn E L (y :: x :: S) W v := by
    intro u e h
    refine .inl ⟨_, _, _, h, fun lv st w hL hT hW => ?_⟩
    obtain ⟨b, st, rfl, hb, hq⟩ := yT_c hT
    clear hT
    have hT := hq
    clear hq
    obtain ⟨a, st, rfl, ha, hq⟩ := yT_c hT
    clear hT
    have hT := hq
    clear hq
    obtain ⟨i, j, rfl, rfl, hv⟩ := zII_ok (g := fun x y => x * y) (fun p q => by rw [evP_mul, Int32.ofInt_mul]) e ha hb
    exact ⟨lv, _, w, hL, yT_k hv hT, hW, rfl⟩
  rcases zS2 h with ⟨m, rfl, h⟩ | ⟨z, rfl, h⟩
  · rcases zS2 h with ⟨n, rfl, g⟩ | ⟨z, rfl, h⟩
    · have h := zNf_ok g
      refine .inl ⟨_, _, _, h, fun lv st w hL hT hW => ?_⟩
      obtain ⟨b, st, rfl, ⟨hn, rfl⟩, hq⟩ := yT_c hT
      clear hT
      have hT := hq
      clear hq
      obtain ⟨a, st, rfl, ⟨hm, rfl⟩, hq⟩ := yT_c hT
      clear hT
      have hT := hq
      clear hq
      exact ⟨lv, _, w, hL, yT_k ⟨Nat.mod_lt _ (by decide), congrArg Value.int (n32_mul)⟩ hT, hW, rfl⟩
    · obtain ⟨u, e, h⟩ := zOp_ok h
      exact slow u e h
  · obtain ⟨u, e, h⟩ := zOp_ok h
    exact slow u e h
theorem n32_and {m n : Nat} (hm : m < 4294967296) (hn : n < 4294967296) : Int32.ofNat m &&& Int32.ofNat n = Int32.ofNat (Nat.land m n) := by
  apply Int32.toBitVec.inj
  show BitVec.ofNat 32 m &&& BitVec.ofNat 32 n = BitVec.ofNat 32 (m &&& n)
  apply BitVec.eq_of_toNat_eq
  rw [BitVec.toNat_and, BitVec.toNat_ofNat, BitVec.toNat_ofNat, BitVec.toNat_ofNat]
  have := Nat.and_le_left (n := m) (m := n)
  rw [Nat.mod_eq_of_lt hm, Nat.mod_eq_of_lt hn, Nat.mod_eq_of_lt (by omega)]
theorem n32_xor {m n : Nat} (hm : m < 4294967296) (hn : n < 4294967296) : Int32.ofNat m ^^^ Int32.ofNat n = Int32.ofNat (Nat.xor m n) := by
  apply Int32.toBitVec.inj
  show BitVec.ofNat 32 m ^^^ BitVec.ofNat 32 n = BitVec.ofNat 32 (m ^^^ n)
  apply BitVec.eq_of_toNat_eq
  rw [BitVec.toNat_xor, BitVec.toNat_ofNat, BitVec.toNat_ofNat, BitVec.toNat_ofNat]
  have := Nat.xor_lt_two_pow (n := 32) hm hn
  rw [Nat.mod_eq_of_lt hm, Nat.mod_eq_of_lt hn, Nat.mod_eq_of_lt (by omega)]
theorem n64_and {m n : Nat} (hm : m < 18446744073709551616) (hn : n < 18446744073709551616) : Int64.ofNat m &&& Int64.ofNat n = Int64.ofNat (Nat.land m n) := by
  apply Int64.toBitVec.inj
  show BitVec.ofNat 64 m &&& BitVec.ofNat 64 n = BitVec.ofNat 64 (m &&& n)
  apply BitVec.eq_of_toNat_eq
  rw [BitVec.toNat_and, BitVec.toNat_ofNat, BitVec.toNat_ofNat, BitVec.toNat_ofNat]
  have := Nat.and_le_left (n := m) (m := n)
  rw [Nat.mod_eq_of_lt hm, Nat.mod_eq_of_lt hn, Nat.mod_eq_of_lt (by omega)]
theorem n64_or {m n : Nat} (hm : m < 18446744073709551616) (hn : n < 18446744073709551616) : Int64.ofNat m ||| Int64.ofNat n = Int64.ofNat (Nat.lor m n) := by
  apply Int64.toBitVec.inj
  show BitVec.ofNat 64 m ||| BitVec.ofNat 64 n = BitVec.ofNat 64 (m ||| n)
  apply BitVec.eq_of_toNat_eq
  rw [BitVec.toNat_or, BitVec.toNat_ofNat, BitVec.toNat_ofNat, BitVec.toNat_ofNat]
  have := Nat.or_lt_two_pow (n := 64) hm hn
  rw [Nat.mod_eq_of_lt hm, Nat.mod_eq_of_lt hn, Nat.mod_eq_of_lt (by omega)]
theorem n64_xor {m n : Nat} (hm : m < 18446744073709551616) (hn : n < 18446744073709551616) : Int64.ofNat m ^^^ Int64.ofNat n = Int64.ofNat (Nat.xor m n) := by
  apply Int64.toBitVec.inj
  show BitVec.ofNat 64 m ^^^ BitVec.ofNat 64 n = BitVec.ofNat 64 (m ^^^ n)
  apply BitVec.eq_of_toNat_eq
  rw [BitVec.toNat_xor, BitVec.toNat_ofNat, BitVec.toNat_ofNat, BitVec.toNat_ofNat]
  have := Nat.xor_lt_two_pow (n := 64) hm hn
  rw [Nat.mod_eq_of_lt hm, Nat.mod_eq_of_lt hn, Nat.mod_eq_of_lt (by omega)]
theorem land_lt {a b c : Nat} (h : a < c) : Nat.land a b < c := Nat.lt_of_le_of_lt (Nat.and_le_left (n := a) (m := b)) h
theorem n32_div {m n : Nat} (hm : m < 4294967296) (hn : n < 4294967296) : Int32.ofNat m / Int32.ofNat n = Int32.ofNat (zN (Int.tdiv (zZ m) (zZ n))) := by
  apply Int32.toInt_inj.mp
  rw [← i32z, Int32.toInt_div, Int32.toInt_ofInt, i32t hm, i32t hn]
theorem n32_rem {m n : Nat} (hm : m < 4294967296) (hn : n < 4294967296) : Int32.ofNat m - Int32.ofNat m / Int32.ofNat n * Int32.ofNat n = Int32.ofNat (zN (Int.sub (zZ m) (Int.mul (Int.tdiv (zZ m) (zZ n)) (zZ n)))) := by
  rw [← i32z]
  show _ = Int32.ofInt (zZ m - Int.tdiv (zZ m) (zZ n) * zZ n)
  rw [Int32.ofInt_sub, Int32.ofInt_mul, ← i32Z hm, ← i32Z hn, n32_div hm hn, i32z]
theorem n64_div {m n : Nat} (hm : m < 18446744073709551616) (hn : n < 18446744073709551616) : Int64.ofNat m / Int64.ofNat n = Int64.ofNat (zNl (Int.tdiv (zZl m) (zZl n))) := by
  apply Int64.toInt_inj.mp
  rw [← i64z, Int64.toInt_div, Int64.toInt_ofInt, i64t hm, i64t hn]
theorem n32_nz {n : Nat} (hn : n < 4294967296) (h : Nat.beq n 0 = false) : decide (Int32.ofNat n = 0) = false := by
  apply decide_eq_false
  intro e
  have h1 := nbeqf h
  have e2 := congrArg Int32.toInt e
  rw [i32t hn] at e2
  have e2 : zZ n = 0 := e2
  rw [zZ_eq] at e2
  split at e2 <;> omega
theorem n64_nz {n : Nat} (hn : n < 18446744073709551616) (h : Nat.beq n 0 = false) : decide (Int64.ofNat n = 0) = false := by
  apply decide_eq_false
  intro e
  have h1 := nbeqf h
  have e2 := congrArg Int64.toInt e
  rw [i64t hn] at e2
  have e2 : zZl n = 0 := e2
  rw [zZl_eq] at e2
  split at e2 <;> omega
theorem n32_i2l {m : Nat} (hm : m < 4294967296) : (Int32.ofNat m).toInt64 = Int64.ofNat (Bool.rec (motive := fun _ => Nat) m (Nat.add m 18446744069414584320) (Nat.ble 2147483648 m)) ∧ (Bool.rec (motive := fun _ => Nat) m (Nat.add m 18446744069414584320) (Nat.ble 2147483648 m) : Nat) < 18446744073709551616 := by
  cases h : Nat.ble 2147483648 m with
  | true =>
    have h1 := pBle h
    have h2 : m + 18446744069414584320 < 18446744073709551616 := by omega
    refine ⟨?_, h2⟩
    apply Int64.toInt_inj.mp
    rw [Int32.toInt_toInt64, i32t hm]
    show _ = (Int64.ofNat (m + 18446744069414584320)).toInt
    rw [i64t h2, zZ_eq, zZl_eq, if_pos h1, if_pos (by omega)]
    omega
  | false =>
    have h1 := nblef h
    have h2 : m < 18446744073709551616 := by omega
    refine ⟨?_, h2⟩
    apply Int64.toInt_inj.mp
    rw [Int32.toInt_toInt64, i32t hm]
    show _ = (Int64.ofNat m).toInt
    rw [i64t h2, zZ_eq, zZl_eq, if_neg (by omega), if_neg (by omega)]
theorem n64_sh {n : Nat} (hn : n < 4294967296) : (Int32.ofNat n).toInt64.toUInt64 &&& Int64.toUInt64 63 = UInt64.ofNat (n % 64) := by
  obtain ⟨e, hl⟩ := n32_i2l hn
  rw [e]
  apply UInt64.toNat_inj.mp
  rw [UInt64.toNat_and, Int64.toUInt64_ofNat', UInt64.toNat_ofNat', UInt64.toNat_ofNat']
  show _ % 2 ^ 64 &&& 2 ^ 6 - 1 = n % 64 % 2 ^ 64
  rw [Nat.and_two_pow_sub_one_eq_mod]
  cases h : Nat.ble 2147483648 n with
  | true =>
    show (n + 18446744069414584320) % 2 ^ 64 % 2 ^ 6 = _
    omega
  | false =>
    show n % 2 ^ 64 % 2 ^ 6 = _
    omega
theorem n64_ushr {m n : Nat} (hm : m < 18446744073709551616) (hn : n < 4294967296) : ((Int64.ofNat m).toUInt64 >>> ((Int32.ofNat n).toInt64.toUInt64 &&& Int64.toUInt64 63)).toInt64 = Int64.ofNat (Nat.shiftRight m (Nat.mod n 64)) := by
  rw [n64_sh hn, Int64.toUInt64_ofNat', ← UInt64.toInt64_ofNat']
  congr 1
  apply UInt64.toNat_inj.mp
  rw [UInt64.toNat_shiftRight, UInt64.toNat_ofNat', UInt64.toNat_ofNat', UInt64.toNat_ofNat', Nat.mod_eq_of_lt hm]
  have h1 : n % 64 % 2 ^ 64 % 64 = n % 64 := by omega
  rw [h1]
  show m >>> (n % 64) = (m >>> (n % 64)) % 2 ^ 64
  have h2 : m >>> (n % 64) ≤ m := Nat.shiftRight_le _ _
  exact (Nat.mod_eq_of_lt (Nat.lt_of_le_of_lt h2 hm)).symm
theorem n64_shl {m n : Nat} (hn : n < 4294967296) : Int64.ofNat m <<< ((Int32.ofNat n).toInt64 &&& 63) = Int64.ofNat (Nat.mod (Nat.shiftLeft m (Nat.mod n 64)) 18446744073709551616) := by
  have e1 : (Int32.ofNat n).toInt64 &&& 63 = Int64.ofNat (n % 64) := by
    have := congrArg UInt64.toInt64 (n64_sh hn)
    rw [UInt64.toInt64_and, UInt64.toInt64_ofNat'] at this
    exact this
  rw [e1]
  have h64 : n % 64 < 64 := Nat.mod_lt _ (by decide)
  show _ = Int64.ofNat ((m <<< (n % 64)) % 18446744073709551616)
  generalize n % 64 = k at h64
  apply Int64.toBitVec.inj
  have e2 : ∀ k, k < 64 → (BitVec.ofNat 64 k).smod 64 = BitVec.ofNat 64 k := by decide
  show BitVec.ofNat 64 m <<< (BitVec.ofNat 64 k).smod 64 = BitVec.ofNat 64 ((m <<< k) % 18446744073709551616)
  rw [e2 k h64]
  apply BitVec.eq_of_toNat_eq
  rw [BitVec.shiftLeft_eq', BitVec.toNat_shiftLeft, BitVec.toNat_ofNat, BitVec.toNat_ofNat, BitVec.toNat_ofNat, Nat.mod_eq_of_lt (show k < 2 ^ 64 by omega), Nat.shiftLeft_eq, Nat.shiftLeft_eq]
  rw [Nat.mod_mul_mod]
  exact (Nat.mod_mod _ _).symm
theorem zs_and : zS ρ T nx K (fun lv st w => pII nx lv st w (fun x y => .int (x &&& y))) zq_and := by
  intro kn E L S W v h
  obtain ⟨y, S, rfl, h⟩ := zL0 h
  obtain ⟨x, S, rfl, h⟩ := zL0 h
  obtain ⟨m, rfl, h⟩ := zI0 h
  obtain ⟨n, rfl, g⟩ := zI0 h
  have h := zNf_ok g
  refine .inl ⟨_, _, _, h, fun lv st w hL hT hW => ?_⟩
  obtain ⟨b, st, rfl, ⟨hn, rfl⟩, hq⟩ := yT_c hT
  clear hT
  have hT := hq
  clear hq
  obtain ⟨a, st, rfl, ⟨hm, rfl⟩, hq⟩ := yT_c hT
  clear hT
  have hT := hq
  clear hq
  exact ⟨lv, _, w, hL, yT_k ⟨land_lt hm, congrArg Value.int (n32_and hm hn)⟩ hT, hW, rfl⟩
theorem zs_xor : zS ρ T nx K (fun lv st w => pII nx lv st w (fun x y => .int (x ^^^ y))) zq_xor := by
  intro kn E L S W v h
  obtain ⟨y, S, rfl, h⟩ := zL0 h
  obtain ⟨x, S, rfl, h⟩ := zL0 h
  obtain ⟨m, rfl, h⟩ := zI0 h
  obtain ⟨n, rfl, g⟩ := zI0 h
  have h := zNf_ok g
  refine .inl ⟨_, _, _, h, fun lv st w hL hT hW => ?_⟩
  obtain ⟨b, st, rfl, ⟨hn, rfl⟩, hq⟩ := yT_c hT
  clear hT
  have hT := hq
  clear hq
  obtain ⟨a, st, rfl, ⟨hm, rfl⟩, hq⟩ := yT_c hT
  clear hT
  have hT := hq
  clear hq
  exact ⟨lv, _, w, hL, yT_k ⟨Nat.xor_lt_two_pow (n := 32) hm hn, congrArg Value.int (n32_xor hm hn)⟩ hT, hW, rfl⟩
theorem zs_div : zS ρ T nx K (fun lv st w => pDiv nx lv st w (fun x y => x / y)) zq_div := by
  intro kn E L S W v h
  obtain ⟨y, S, rfl, h⟩ := zL0 h
  obtain ⟨x, S, rfl, h⟩ := zL0 h
  obtain ⟨m, rfl, h⟩ := zI0 h
  obtain ⟨n, rfl, h⟩ := zI0 h
  obtain ⟨h0, g⟩ := zBf h
  have h := zNf_ok g
  refine .inl ⟨_, _, _, h, fun lv st w hL hT hW => ?_⟩
  obtain ⟨b, st, rfl, ⟨hn, rfl⟩, hq⟩ := yT_c hT
  clear hT
  have hT := hq
  clear hq
  obtain ⟨a, st, rfl, ⟨hm, rfl⟩, hq⟩ := yT_c hT
  clear hT
  have hT := hq
  clear hq
  refine ⟨lv, _, w, hL, yT_k ⟨zN_lt, congrArg Value.int (n32_div hm hn)⟩ hT, hW, ?_⟩
  show pDiv nx lv (.int (Int32.ofNat n) :: .int (Int32.ofNat m) :: st) w _ = _
  unfold pDiv
  simp only [n32_nz hn h0]
  rfl
theorem zs_rem : zS ρ T nx K (fun lv st w => pDiv nx lv st w (fun x y => x - x / y * y)) zq_rem := by
  intro kn E L S W v h
  obtain ⟨y, S, rfl, h⟩ := zL0 h
  obtain ⟨x, S, rfl, h⟩ := zL0 h
  obtain ⟨m, rfl, h⟩ := zI0 h
  obtain ⟨n, rfl, h⟩ := zI0 h
  obtain ⟨h0, g⟩ := zBf h
  have h := zNf_ok g
  refine .inl ⟨_, _, _, h, fun lv st w hL hT hW => ?_⟩
  obtain ⟨b, st, rfl, ⟨hn, rfl⟩, hq⟩ := yT_c hT
  clear hT
  have hT := hq
  clear hq
  obtain ⟨a, st, rfl, ⟨hm, rfl⟩, hq⟩ := yT_c hT
  clear hT
  have hT := hq
  clear hq
  refine ⟨lv, _, w, hL, yT_k ⟨zN_lt, congrArg Value.int (n32_rem hm hn)⟩ hT, hW, ?_⟩
  show pDiv nx lv (.int (Int32.ofNat n) :: .int (Int32.ofNat m) :: st) w _ = _
  unfold pDiv
  simp only [n32_nz hn h0]
  rfl
theorem zs_neg : zS ρ T nx K (fun lv st w => pI1 nx lv st w (fun x => .int (-x))) zq_neg := by
  intro kn E L S W v h
  obtain ⟨x, S, rfl, h⟩ := zL0 h
  rcases zS2 h with ⟨m, rfl, g⟩ | ⟨z, rfl, h⟩
  · have h := zNf_ok g
    refine .inl ⟨_, _, _, h, fun lv st w hL hT hW => ?_⟩
    obtain ⟨a, st, rfl, ⟨hm, rfl⟩, hq⟩ := yT_c hT
    clear hT
    have hT := hq
    clear hq
    refine ⟨lv, _, w, hL, yT_k ⟨Nat.mod_lt _ (by decide), congrArg Value.int ?_⟩ hT, hW, rfl⟩
    have := n32_sub (m := 0) hm
    rw [show Nat.add 0 (Nat.sub 4294967296 m) = Nat.sub 4294967296 m from Nat.zero_add _] at this
    rw [← this]
    show -(Int32.ofNat m) = 0 - Int32.ofNat m
    rw [Int32.zero_sub]
  · obtain ⟨u, e, h⟩ := zOp_ok h
    refine .inl ⟨_, _, _, h, fun lv st w hL hT hW => ?_⟩
    obtain ⟨a, st, rfl, ha, hq⟩ := yT_c hT
    clear hT
    have hT := hq
    clear hq
    obtain ⟨i, j, e2, rfl, hv⟩ := zII_ok (g := fun x y => x - y) (fun p q => by rw [evP_sub, Int32.ofInt_sub]) e (show yV ρ (.inl 0) (.int 0) from ⟨by decide, rfl⟩) ha
    injection e2 with e2
    subst e2
    rw [Int32.zero_sub] at hv
    exact ⟨lv, _, w, hL, yT_k hv hT, hW, rfl⟩
theorem zs_ladd : zS ρ T nx K (fun lv st w => pLL nx lv st w (fun x y => .long (x + y))) zq_ladd := by
  intro kn E L S W v h
  obtain ⟨y, S, rfl, h⟩ := zL0 h
  obtain ⟨x, S, rfl, h⟩ := zL0 h
  have slow : ∀ u, zLL zAdd x y = some u → kn L (u :: S) W = some v → zOut ρ T nx K (fun lv st w => pLL nx lv st w (fun x y => .long (x + y))) kn E L (y :: x :: S) W v := by
    intro u e h
    refine .inl ⟨_, _, _, h, fun lv st w hL hT hW => ?_⟩
    obtain ⟨b, st, rfl, hb, hq⟩ := yT_c hT
    clear hT
    have hT := hq
    clear hq
    obtain ⟨a, st, rfl, ha, hq⟩ := yT_c hT
    clear hT
    have hT := hq
    clear hq
    obtain ⟨i, j, rfl, rfl, hv⟩ := zLL_ok (g := fun x y => x + y) (fun p q => by rw [evP_add, Int64.ofInt_add]) e ha hb
    exact ⟨lv, _, w, hL, yT_k hv hT, hW, rfl⟩
  rcases zNo_ok h with ⟨m, rfl, h⟩ | h
  · rcases zNo_ok h with ⟨n, rfl, g⟩ | h
    · have h := zNf_ok g
      refine .inl ⟨_, _, _, h, fun lv st w hL hT hW => ?_⟩
      obtain ⟨b, st, rfl, ⟨hn, rfl⟩, hq⟩ := yT_c hT
      clear hT
      have hT := hq
      clear hq
      obtain ⟨a, st, rfl, ⟨hm, rfl⟩, hq⟩ := yT_c hT
      clear hT
      have hT := hq
      clear hq
      exact ⟨lv, _, w, hL, yT_k ⟨Nat.mod_lt _ (by decide), congrArg Value.long (n64_add)⟩ hT, hW, rfl⟩
    · obtain ⟨u, e, h⟩ := zOp_ok h
      exact slow u e h
  · obtain ⟨u, e, h⟩ := zOp_ok h
    exact slow u e h
theorem zs_lsub : zS ρ T nx K (fun lv st w => pLL nx lv st w (fun x y => .long (x - y))) zq_lsub := by
  intro kn E L S W v h
  obtain ⟨y, S, rfl, h⟩ := zL0 h
  obtain ⟨x, S, rfl, h⟩ := zL0 h
  have slow : ∀ u, zLL zSub x y = some u → kn L (u :: S) W = some v → zOut ρ T nx K (fun lv st w => pLL nx lv st w (fun x y => .long (x - y))) kn E L (y :: x :: S) W v := by
    intro u e h
    refine .inl ⟨_, _, _, h, fun lv st w hL hT hW => ?_⟩
    obtain ⟨b, st, rfl, hb, hq⟩ := yT_c hT
    clear hT
    have hT := hq
    clear hq
    obtain ⟨a, st, rfl, ha, hq⟩ := yT_c hT
    clear hT
    have hT := hq
    clear hq
    obtain ⟨i, j, rfl, rfl, hv⟩ := zLL_ok (g := fun x y => x - y) (fun p q => by rw [evP_sub, Int64.ofInt_sub]) e ha hb
    exact ⟨lv, _, w, hL, yT_k hv hT, hW, rfl⟩
  rcases zNo_ok h with ⟨m, rfl, h⟩ | h
  · rcases zNo_ok h with ⟨n, rfl, g⟩ | h
    · have h := zNf_ok g
      refine .inl ⟨_, _, _, h, fun lv st w hL hT hW => ?_⟩
      obtain ⟨b, st, rfl, ⟨hn, rfl⟩, hq⟩ := yT_c hT
      clear hT
      have hT := hq
      clear hq
      obtain ⟨a, st, rfl, ⟨hm, rfl⟩, hq⟩ := yT_c hT
      clear hT
      have hT := hq
      clear hq
      exact ⟨lv, _, w, hL, yT_k ⟨Nat.mod_lt _ (by decide), congrArg Value.long (n64_sub hn)⟩ hT, hW, rfl⟩
    · obtain ⟨u, e, h⟩ := zOp_ok h
      exact slow u e h
  · obtain ⟨u, e, h⟩ := zOp_ok h
    exact slow u e h
theorem zs_lmul : zS ρ T nx K (fun lv st w => pLL nx lv st w (fun x y => .long (x * y))) zq_lmul := by
  intro kn E L S W v h
  obtain ⟨y, S, rfl, h⟩ := zL0 h
  obtain ⟨x, S, rfl, h⟩ := zL0 h
  have slow : ∀ u, zLL zMul x y = some u → kn L (u :: S) W = some v → zOut ρ T nx K (fun lv st w => pLL nx lv st w (fun x y => .long (x * y))) kn E L (y :: x :: S) W v := by
    intro u e h
    refine .inl ⟨_, _, _, h, fun lv st w hL hT hW => ?_⟩
    obtain ⟨b, st, rfl, hb, hq⟩ := yT_c hT
    clear hT
    have hT := hq
    clear hq
    obtain ⟨a, st, rfl, ha, hq⟩ := yT_c hT
    clear hT
    have hT := hq
    clear hq
    obtain ⟨i, j, rfl, rfl, hv⟩ := zLL_ok (g := fun x y => x * y) (fun p q => by rw [evP_mul, Int64.ofInt_mul]) e ha hb
    exact ⟨lv, _, w, hL, yT_k hv hT, hW, rfl⟩
  rcases zNo_ok h with ⟨m, rfl, h⟩ | h
  · rcases zNo_ok h with ⟨n, rfl, g⟩ | h
    · have h := zNf_ok g
      refine .inl ⟨_, _, _, h, fun lv st w hL hT hW => ?_⟩
      obtain ⟨b, st, rfl, ⟨hn, rfl⟩, hq⟩ := yT_c hT
      clear hT
      have hT := hq
      clear hq
      obtain ⟨a, st, rfl, ⟨hm, rfl⟩, hq⟩ := yT_c hT
      clear hT
      have hT := hq
      clear hq
      exact ⟨lv, _, w, hL, yT_k ⟨Nat.mod_lt _ (by decide), congrArg Value.long (n64_mul)⟩ hT, hW, rfl⟩
    · obtain ⟨u, e, h⟩ := zOp_ok h
      exact slow u e h
  · obtain ⟨u, e, h⟩ := zOp_ok h
    exact slow u e h
theorem zs_land : zS ρ T nx K (fun lv st w => pLL nx lv st w (fun x y => .long (x &&& y))) zq_land := by
  intro kn E L S W v h
  obtain ⟨y, S, rfl, h⟩ := zL0 h
  obtain ⟨x, S, rfl, h⟩ := zL0 h
  rcases zNo_ok h with ⟨m, rfl, h⟩ | h
  · rcases zNo_ok h with ⟨n, rfl, g⟩ | h
    · have h := zNf_ok g
      refine .inl ⟨_, _, _, h, fun lv st w hL hT hW => ?_⟩
      obtain ⟨b, st, rfl, ⟨hn, rfl⟩, hq⟩ := yT_c hT
      clear hT
      have hT := hq
      clear hq
      obtain ⟨a, st, rfl, ⟨hm, rfl⟩, hq⟩ := yT_c hT
      clear hT
      have hT := hq
      clear hq
      exact ⟨lv, _, w, hL, yT_k ⟨land_lt hm, congrArg Value.long (n64_and hm hn)⟩ hT, hW, rfl⟩
    · cases h
  · cases h
theorem zs_lor : zS ρ T nx K (fun lv st w => pLL nx lv st w (fun x y => .long (x ||| y))) zq_lor := by
  intro kn E L S W v h
  obtain ⟨y, S, rfl, h⟩ := zL0 h
  obtain ⟨x, S, rfl, h⟩ := zL0 h
  rcases zNo_ok h with ⟨m, rfl, h⟩ | h
  · rcases zNo_ok h with ⟨n, rfl, g⟩ | h
    · have h := zNf_ok g
      refine .inl ⟨_, _, _, h, fun lv st w hL hT hW => ?_⟩
      obtain ⟨b, st, rfl, ⟨hn, rfl⟩, hq⟩ := yT_c hT
      clear hT
      have hT := hq
      clear hq
      obtain ⟨a, st, rfl, ⟨hm, rfl⟩, hq⟩ := yT_c hT
      clear hT
      have hT := hq
      clear hq
      exact ⟨lv, _, w, hL, yT_k ⟨Nat.or_lt_two_pow (n := 64) hm hn, congrArg Value.long (n64_or hm hn)⟩ hT, hW, rfl⟩
    · cases h
  · cases h
theorem zs_lxor : zS ρ T nx K (fun lv st w => pLL nx lv st w (fun x y => .long (x ^^^ y))) zq_lxor := by
  intro kn E L S W v h
  obtain ⟨y, S, rfl, h⟩ := zL0 h
  obtain ⟨x, S, rfl, h⟩ := zL0 h
  rcases zNo_ok h with ⟨m, rfl, h⟩ | h
  · rcases zNo_ok h with ⟨n, rfl, g⟩ | h
    · have h := zNf_ok g
      refine .inl ⟨_, _, _, h, fun lv st w hL hT hW => ?_⟩
      obtain ⟨b, st, rfl, ⟨hn, rfl⟩, hq⟩ := yT_c hT
      clear hT
      have hT := hq
      clear hq
      obtain ⟨a, st, rfl, ⟨hm, rfl⟩, hq⟩ := yT_c hT
      clear hT
      have hT := hq
      clear hq
      exact ⟨lv, _, w, hL, yT_k ⟨Nat.xor_lt_two_pow (n := 64) hm hn, congrArg Value.long (n64_xor hm hn)⟩ hT, hW, rfl⟩
    · cases h
  · cases h
theorem zs_ldiv : zS ρ T nx K (fun lv st w => pDivL nx lv st w (fun x y => x / y)) zq_ldiv := by
  intro kn E L S W v h
  obtain ⟨y, S, rfl, h⟩ := zL0 h
  obtain ⟨x, S, rfl, h⟩ := zL0 h
  rcases zNo_ok h with ⟨m, rfl, h⟩ | h
  · rcases zNo_ok h with ⟨n, rfl, h⟩ | h
    · obtain ⟨h0, g⟩ := zBf h
      have h := zNf_ok g
      refine .inl ⟨_, _, _, h, fun lv st w hL hT hW => ?_⟩
      obtain ⟨b, st, rfl, ⟨hn, rfl⟩, hq⟩ := yT_c hT
      clear hT
      have hT := hq
      clear hq
      obtain ⟨a, st, rfl, ⟨hm, rfl⟩, hq⟩ := yT_c hT
      clear hT
      have hT := hq
      clear hq
      refine ⟨lv, _, w, hL, yT_k ⟨zNl_lt, congrArg Value.long (n64_div hm hn)⟩ hT, hW, ?_⟩
      show pDivL nx lv (.long (Int64.ofNat n) :: .long (Int64.ofNat m) :: st) w _ = _
      unfold pDivL
      simp only [n64_nz hn h0]
      rfl
    · cases h
  · cases h
theorem zs_lneg : zS ρ T nx K (fun lv st w => pL1 nx lv st w (fun x => .long (-x))) zq_lneg := by
  intro kn E L S W v h
  obtain ⟨x, S, rfl, h⟩ := zL0 h
  rcases zNo_ok h with ⟨m, rfl, g⟩ | h
  · have h := zNf_ok g
    refine .inl ⟨_, _, _, h, fun lv st w hL hT hW => ?_⟩
    obtain ⟨a, st, rfl, ⟨hm, rfl⟩, hq⟩ := yT_c hT
    clear hT
    have hT := hq
    clear hq
    refine ⟨lv, _, w, hL, yT_k ⟨Nat.mod_lt _ (by decide), congrArg Value.long ?_⟩ hT, hW, rfl⟩
    have := n64_sub (m := 0) hm
    rw [show Nat.add 0 (Nat.sub 18446744073709551616 m) = Nat.sub 18446744073709551616 m from Nat.zero_add _] at this
    rw [← this]
    show -(Int64.ofNat m) = 0 - Int64.ofNat m
    rw [Int64.zero_sub]
  · obtain ⟨u, e, h⟩ := zOp_ok h
    refine .inl ⟨_, _, _, h, fun lv st w hL hT hW => ?_⟩
    obtain ⟨a, st, rfl, ha, hq⟩ := yT_c hT
    clear hT
    have hT := hq
    clear hq
    obtain ⟨i, j, e2, rfl, hv⟩ := zLL_ok (g := fun x y => x - y) (fun p q => by rw [evP_sub, Int64.ofInt_sub]) e (show yV ρ (.inr (.inr (.inl 0))) (.long 0) from ⟨by decide, rfl⟩) ha
    injection e2 with e2
    subst e2
    rw [Int64.zero_sub] at hv
    exact ⟨lv, _, w, hL, yT_k hv hT, hW, rfl⟩
theorem zs_i2l : zS ρ T nx K (fun lv st w => pI1 nx lv st w (fun x => .long x.toInt64)) zq_i2l := by
  intro kn E L S W v h
  obtain ⟨x, S, rfl, h⟩ := zL0 h
  rcases zS2 h with ⟨m, rfl, g⟩ | ⟨z, rfl, h⟩
  · have h := zNf_ok g
    refine .inl ⟨_, _, _, h, fun lv st w hL hT hW => ?_⟩
    obtain ⟨a, st, rfl, ⟨hm, rfl⟩, hq⟩ := yT_c hT
    clear hT
    have hT := hq
    clear hq
    exact ⟨lv, _, w, hL, yT_k ⟨(n32_i2l hm).2, congrArg Value.long (n32_i2l hm).1⟩ hT, hW, rfl⟩
  · obtain ⟨u, e, h⟩ := zOp_ok h
    refine .inl ⟨_, _, _, h, fun lv st w hL hT hW => ?_⟩
    obtain ⟨a, st, rfl, ha, hq⟩ := yT_c hT
    clear hT
    have hT := hq
    clear hq
    unfold zI2l at e
    split at e
    · rename_i p he
      injection he with he
      subst he
      rcases pCond e with ⟨hc, e⟩ | ⟨_, e⟩
      · cases e
        have ha : a = .int (Int32.ofInt (evP ρ p)) := ha
        subst ha
        have b := zIn_ok hW.1 hc
        refine ⟨lv, _, w, hL, yT_k ?_ hT, hW, rfl⟩
        show Value.long (Int32.ofInt (evP ρ p)).toInt64 = .long (Int64.ofInt (evP ρ p))
        congr 1
        apply Int64.toInt_inj.mp
        rw [Int32.toInt_toInt64, i32i b, i64i (by omega)]
      · cases e
    · cases e
theorem zs_l2i : zS ρ T nx K (fun lv st w => pL1 nx lv st w (fun x => .int x.toInt32)) zq_l2i := by
  intro kn E L S W v h
  obtain ⟨x, S, rfl, h⟩ := zL0 h
  rcases zNo_ok h with ⟨m, rfl, g⟩ | h
  · have h := zNf_ok g
    refine .inl ⟨_, _, _, h, fun lv st w hL hT hW => ?_⟩
    obtain ⟨a, st, rfl, ⟨hm, rfl⟩, hq⟩ := yT_c hT
    clear hT
    have hT := hq
    clear hq
    refine ⟨lv, _, w, hL, yT_k ⟨Nat.mod_lt _ (by decide), congrArg Value.int ?_⟩ hT, hW, rfl⟩
    rw [Int64.toInt32_ofNat']
    exact i32n (Nat.mod_mod _ _).symm
  · obtain ⟨u, e, h⟩ := zOp_ok h
    refine .inl ⟨_, _, _, h, fun lv st w hL hT hW => ?_⟩
    obtain ⟨a, st, rfl, ha, hq⟩ := yT_c hT
    clear hT
    have hT := hq
    clear hq
    unfold zL2i at e
    split at e
    · rename_i p _ _
      cases e
      have ha : a = .long (Int64.ofInt (evP ρ p)) := ha
      subst ha
      refine ⟨lv, _, w, hL, yT_k ?_ hT, hW, rfl⟩
      have := zVi_ok (ρ := ρ) (p := p)
      rw [← Int64.toInt32_ofInt] at this
      exact this
    · cases e
theorem zs_lushr : zS ρ T nx K (fun lv st w => pLI nx lv st w (fun x y => .long ((x.toUInt64 >>> (y.toInt64.toUInt64 &&& Int64.toUInt64 63)).toInt64))) zq_lushr := by
  intro kn E L S W v h
  obtain ⟨y, S, rfl, h⟩ := zL0 h
  obtain ⟨x, S, rfl, h⟩ := zL0 h
  rcases zNo_ok h with ⟨m, rfl, h⟩ | h
  · obtain ⟨n, rfl, g⟩ := zI0 h
    have h := zNf_ok g
    refine .inl ⟨_, _, _, h, fun lv st w hL hT hW => ?_⟩
    obtain ⟨b, st, rfl, ⟨hn, rfl⟩, hq⟩ := yT_c hT
    clear hT
    have hT := hq
    clear hq
    obtain ⟨a, st, rfl, ⟨hm, rfl⟩, hq⟩ := yT_c hT
    clear hT
    have hT := hq
    clear hq
    exact ⟨lv, _, w, hL, yT_k ⟨Nat.lt_of_le_of_lt (Nat.shiftRight_le _ _) hm, congrArg Value.long (n64_ushr hm hn)⟩ hT, hW, rfl⟩
  · cases h
theorem zs_lshl : zS ρ T nx K (fun lv st w => pLI nx lv st w (fun x y => .long (x <<< (y.toInt64 &&& 63)))) zq_lshl := by
  intro kn E L S W v h
  obtain ⟨y, S, rfl, h⟩ := zL0 h
  obtain ⟨x, S, rfl, h⟩ := zL0 h
  rcases zNo_ok h with ⟨m, rfl, h⟩ | h
  · obtain ⟨n, rfl, g⟩ := zI0 h
    have h := zNf_ok g
    refine .inl ⟨_, _, _, h, fun lv st w hL hT hW => ?_⟩
    obtain ⟨b, st, rfl, ⟨hn, rfl⟩, hq⟩ := yT_c hT
    clear hT
    have hT := hq
    clear hq
    obtain ⟨a, st, rfl, ⟨hm, rfl⟩, hq⟩ := yT_c hT
    clear hT
    have hT := hq
    clear hq
    exact ⟨lv, _, w, hL, yT_k ⟨Nat.mod_lt _ (by decide), congrArg Value.long (n64_shl hn)⟩ hT, hW, rfl⟩
  · cases h
theorem zle64_t {m n : Nat} (h : zle64 m n = true) : (m + 9223372036854775808) % 18446744073709551616 ≤ (n + 9223372036854775808) % 18446744073709551616 := pBle h
theorem zle64_f {m n : Nat} (h : zle64 m n = false) : (n + 9223372036854775808) % 18446744073709551616 < (m + 9223372036854775808) % 18446744073709551616 := nblef h
theorem zle32_t {m n : Nat} (h : zle32 m n = true) : (m + 2147483648) % 4294967296 ≤ (n + 2147483648) % 4294967296 := pBle h
theorem zle32_f {m n : Nat} (h : zle32 m n = false) : (n + 2147483648) % 4294967296 < (m + 2147483648) % 4294967296 := nblef h
theorem zle0_t {n : Nat} (h : zle0 n = true) : n = 0 ∨ 2147483648 ≤ n := by
  unfold zle0 at h
  rw [Bool.or_eq_true] at h
  exact h.elim (fun e => .inl (pBeq e)) (fun e => .inr (pBle e))
theorem zle0_f {n : Nat} (h : zle0 n = false) : ¬ n = 0 ∧ n < 2147483648 := by
  unfold zle0 at h
  rw [Bool.or_eq_false_iff] at h
  exact ⟨nbeqf h.1, nblef h.2⟩
theorem zlt32_t {m n : Nat} (h : zlt32 m n = true) : 1 + (m + 2147483648) % 4294967296 ≤ (n + 2147483648) % 4294967296 := pBle h
theorem zlt32_f {m n : Nat} (h : zlt32 m n = false) : (n + 2147483648) % 4294967296 < 1 + (m + 2147483648) % 4294967296 := nblef h
theorem lgc {i j : Int64} {z : Int} (h : i.toInt - j.toInt = z) : lg_cmp i j = if 0 < z then 1 else if z = 0 then 0 else -1 := by
  unfold lg_cmp
  by_cases g : 0 < z
  · rw [if_pos g, if_pos (show j < i from Int64.lt_iff_toInt_lt.mpr (by omega))]
  · rw [if_neg g, if_neg (show ¬ j < i from fun e => by have := Int64.lt_iff_toInt_lt.mp e; omega)]
    by_cases g2 : z = 0
    · rw [if_pos g2, if_pos (Int64.toInt_inj.mp (by omega))]
    · rw [if_neg g2, if_neg (fun e => by rw [e] at h; omega)]
theorem zs_lcmp : zS ρ T nx K (fun lv st w => pLL nx lv st w (fun x y => .int (lg_cmp x y))) zq_lcmp := by
  intro kn E L S W v h
  obtain ⟨y, S, rfl, h⟩ := zL0 h
  obtain ⟨x, S, rfl, h⟩ := zL0 h
  have slow : ∀ n, zLc (zCmpl W.1 x y) = some n → kn L (.inl n :: S) W = some v → zOut ρ T nx K (fun lv st w => pLL nx lv st w (fun x y => .int (lg_cmp x y))) kn E L (y :: x :: S) W v := by
    intro n e h
    refine .inl ⟨_, _, _, h, fun lv st w hL hT hW => ?_⟩
    obtain ⟨b, st, rfl, hb, hq⟩ := yT_c hT
    clear hT
    have hT := hq
    clear hq
    obtain ⟨a, st, rfl, ha, hq⟩ := yT_c hT
    clear hT
    have hT := hq
    clear hq
    have hk : ∃ p q, zPl x = some p ∧ zPl y = some q := by
      unfold zCmpl at e
      split at e
      · rename_i p q hp hq
        exact ⟨p, q, hp, hq⟩
      · cases e
    obtain ⟨p, q, hp, hq⟩ := hk
    have e1 := zPl_ok hp ha
    have e2 := zPl_ok hq hb
    subst e1
    subst e2
    obtain ⟨s1, s2, s3⟩ := zCmpl_ok hW.1 ha hb
    refine ⟨lv, _, w, hL, yT_k ?_ hT, hW, rfl⟩
    have hc := lgc (i := Int64.ofInt (evP ρ p)) (j := Int64.ofInt (evP ρ q)) rfl
    show yV ρ (.inl n) (.int (lg_cmp _ _))
    rw [hc]
    generalize (Int64.ofInt (evP ρ p)).toInt - (Int64.ofInt (evP ρ q)).toInt = z at s1 s2 s3
    generalize zCmpl W.1 x y = s at e s1 s2 s3
    unfold zLc at e
    split at e
    · cases e
      have h2 : ¬ z = 0 := fun g => by cases s2 g
      have h3 : ¬ 0 < z := fun g => by cases s3 g
      rw [if_neg h3, if_neg h2]
      exact ⟨by decide, rfl⟩
    · cases e
      have h1 : ¬ z < 0 := fun g => by cases s1 g
      have h3 : ¬ 0 < z := fun g => by cases s3 g
      rw [if_neg h3, if_pos (by omega)]
      exact ⟨by decide, rfl⟩
    · cases e
      have h1 : ¬ z < 0 := fun g => by cases s1 g
      have h2 : ¬ z = 0 := fun g => by cases s2 g
      rw [if_pos (by omega)]
      exact ⟨by decide, rfl⟩
    · cases e
  rcases zNo_ok h with ⟨m, rfl, h⟩ | h
  · rcases zNo_ok h with ⟨n, rfl, h⟩ | h
    · have num : ∀ k, k < 4294967296 → (∀ z : Int, z = zZl m - zZl n → m < 18446744073709551616 → n < 18446744073709551616 → (if 0 < z then (1 : Int32) else if z = 0 then 0 else -1) = Int32.ofNat k) → kn L (.inl k :: S) W = some v → zOut ρ T nx K (fun lv st w => pLL nx lv st w (fun x y => .int (lg_cmp x y))) kn E L (.inr (.inr (.inl n)) :: .inr (.inr (.inl m)) :: S) W v := by
        intro k hk H h
        refine .inl ⟨_, _, _, h, fun lv st w hL hT hW => ?_⟩
        obtain ⟨b, st, rfl, ⟨hn, rfl⟩, hq⟩ := yT_c hT
        clear hT
        have hT := hq
        clear hq
        obtain ⟨a, st, rfl, ⟨hm, rfl⟩, hq⟩ := yT_c hT
        clear hT
        have hT := hq
        clear hq
        refine ⟨lv, _, w, hL, yT_k ⟨hk, congrArg Value.int ?_⟩ hT, hW, rfl⟩
        rw [lgc rfl, i64t hm, i64t hn]
        exact H _ rfl hm hn
      rcases zB h with ⟨h1, h⟩ | ⟨h1, h⟩
      · have h1 := nbeqf h1
        rcases zBi h with ⟨h2, h⟩ | ⟨h2, h⟩
        · have h2 := zle64_f h2
          refine num _ (by decide) (fun z hz hm hn => ?_) h
          rw [if_pos]
          · rfl
          · rw [hz, zZl_eq, zZl_eq]
            split <;> split <;> omega
        · have h2 := zle64_t h2
          refine num _ (by decide) (fun z hz hm hn => ?_) h
          have g1 : z < 0 := by
            rw [hz, zZl_eq, zZl_eq]
            split <;> split <;> omega
          rw [if_neg (by omega), if_neg (by omega)]
          rfl
      · have h1 := pBeq h1
        refine num _ (by decide) (fun z hz hm hn => ?_) h
        rw [h1] at hz
        rw [if_neg (by omega), if_pos (by omega)]
        rfl
    · obtain ⟨n, e, h⟩ := zO0 h
      exact slow n e h
  · obtain ⟨n, e, h⟩ := zO0 h
    exact slow n e h
theorem zs_dup : zS ρ T nx K (fun lv st w => pDup nx lv st w) zq_dup := by
  intro kn E L S W v h
  obtain ⟨x, S, rfl, h⟩ := zL0 h
  obtain ⟨h, hc⟩ := zLong1 h
  refine .inl ⟨_, _, _, h, fun lv st w hL hT hW => ?_⟩
  obtain ⟨a, st, rfl, ha, hq⟩ := yT_c hT
  clear hT
  have hT := hq
  clear hq
  refine ⟨lv, _, w, hL, yT_k ha (yT_k ha hT), hW, ?_⟩
  show pDup nx lv (a :: st) w = _
  unfold pDup
  simp only [hc ρ a ha]
  rfl
theorem zs_pop : zS ρ T nx K (fun lv st w => pPop nx lv st w) zq_pop := by
  intro kn E L S W v h
  obtain ⟨x, S, rfl, h⟩ := zL0 h
  obtain ⟨h, hc⟩ := zLong1 h
  refine .inl ⟨_, _, _, h, fun lv st w hL hT hW => ?_⟩
  obtain ⟨a, st, rfl, ha, hq⟩ := yT_c hT
  clear hT
  have hT := hq
  clear hq
  refine ⟨lv, _, w, hL, hT, hW, ?_⟩
  show pPop nx lv (a :: st) w = _
  unfold pPop
  simp only [hc ρ a ha]
  rfl
theorem zs_dup2 : zS ρ T nx K (fun lv st w => pDup2 nx lv st w) zq_dup2 := by
  intro kn E L S W v h
  obtain ⟨y, S, rfl, h⟩ := zL0 h
  obtain ⟨x, S, rfl, h⟩ := zL0 h
  obtain ⟨h, hc⟩ := zLong1 h
  obtain ⟨h, hd⟩ := zLong1 h
  refine .inl ⟨_, _, _, h, fun lv st w hL hT hW => ?_⟩
  obtain ⟨b, st, rfl, hb, hq⟩ := yT_c hT
  clear hT
  have hT := hq
  clear hq
  obtain ⟨a, st, rfl, ha, hq⟩ := yT_c hT
  clear hT
  have hT := hq
  clear hq
  refine ⟨lv, _, w, hL, yT_k hb (yT_k ha (yT_k hb (yT_k ha hT))), hW, ?_⟩
  show pDup2 nx lv (b :: a :: st) w = _
  unfold pDup2
  simp only [hc ρ b hb, hd ρ a ha]
  rfl
end LEAF
