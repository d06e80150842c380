/-! THE CLASS DRAWS POINTS: which places are taken, the loop, where no place comes twice. By hand and by program (wip/tools/lay2.py, mk8a.py, mk85n.py). -/
theorem bt_or {x : Int64} {k j : Nat} (hk : k < 64) (hj : j < 64) : bt (x ||| sh1 k) j = (bt x j || decide (j = k)) := by
  have e : sh1 k = Int64.ofNat ((1 <<< (k % 64)) % 18446744073709551616) := n64_shl (m := 1) (n := k) (by omega)
  rw [e]
  show (x.toBitVec ||| (BitVec.ofNat 64 ((1 <<< (k % 64)) % 18446744073709551616))).getLsbD j = _
  rw [BitVec.getLsbD_or, BitVec.getLsbD_ofNat]
  unfold bt
  congr 1
  rw [Nat.mod_eq_of_lt hk, Nat.one_shiftLeft, show (18446744073709551616 : Nat) = 2 ^ 64 from rfl, Nat.testBit_mod_two_pow, Nat.testBit_two_pow]
  simp only [decide_eq_true hj, Bool.true_and]
  by_cases h : j = k
  · subst h
    simp
  · rw [decide_eq_false h, decide_eq_false (fun e => h e.symm)]
/-- G as it is ahead of the i-th place drawn -/
def gS : Nat → Nat
  | 0 => 313
  | i + 1 => dG (dG (gS i))
theorem gS_lt : ∀ (i : Nat), gS i < 30047
  | 0 => by decide
  | _ + 1 => dG_lt
def plX (m i : Nat) : Int32 := dX m (gS i)
def plY (m i : Nat) : Int32 := dX m (dG (gS i))
def isPl (m k : Nat) (x y : Int32) : Prop := ∃ i, i < k ∧ x = plX m i ∧ y = plY m i
def isCo (x y : Int32) : Prop := (x = nI 1000 ∨ x = nI 4294966296) ∧ (y = nI 1000 ∨ y = nI 4294966296)
/-- points are corners, or at places drawn up to now -/
def trk (m k : Nat) (xs ys : Nat → Int32) (th : Int64) : Prop := ∀ p, p < 40 → bt th p = true → (p < 4 ∧ isCo (xs p) (ys p)) ∨ (4 ≤ p ∧ p < 4 + k ∧ isPl m k (xs p) (ys p))
theorem trk_s {m k : Nat} {xs ys : Nat → Int32} {th : Int64} (h : trk m k xs ys th) : trk m (k + 1) xs ys th := by
  intro p hp hb
  rcases h p hp hb with h1 | ⟨h1, h2, i, h3, h4⟩
  · exact .inl h1
  · exact .inr ⟨h1, by omega, i, by omega, h4⟩
theorem luG_min {th : Int64} {j : Nat} (hj : j < 40) (hb : bt th j = false) : ∀ {n a : Nat}, a + n = 40 → a ≤ j → a ≤ luG th n a ∧ luG th n a ≤ j := by
  intro n
  induction n with
  | zero => intro a h1 h2; omega
  | succ n ih =>
    intro a h1 h2
    cases h : bt th a with
    | true =>
      rw [luG_t h]
      have hne : a ≠ j := fun e => by
        rw [e, hb] at h
        cases h
      have := ih (a := a + 1) (by omega) (by omega)
      omega
    | false =>
      rw [luG_f h]
      omega
theorem trk_free {m k : Nat} {xs ys : Nat → Int32} {th : Int64} (h : trk m k xs ys th) (hk : k < 36) : 4 ≤ luG th 36 4 ∧ luG th 36 4 ≤ 4 + k := by
  have hb : bt th (4 + k) = false := by
    cases hb : bt th (4 + k) with
    | false => rfl
    | true =>
      rcases h _ (by omega) hb with h1 | h1 <;> omega
  exact luG_min (by omega) hb (by omega) (by omega)
theorem trk_new {m k : Nat} {xs ys : Nat → Int32} {th : Int64} (h : trk m k xs ys th) (hk : k < 36) : trk m (k + 1) (upd xs (luG th 36 4) (plX m k)) (upd ys (luG th 36 4) (plY m k)) (th ||| sh1 (luG th 36 4)) := by
  obtain ⟨h1, h2⟩ := trk_free h hk
  intro p hp hb
  rw [bt_or (by omega) (by omega)] at hb
  unfold upd
  by_cases e : p = luG th 36 4
  · rw [if_pos e, if_pos e]
    exact .inr ⟨by omega, by omega, k, by omega, rfl, rfl⟩
  · rw [if_neg e, if_neg e]
    rw [decide_eq_false e, Bool.or_false] at hb
    exact trk_s h p hp hb
theorem atG_none {xs ys : Nat → Int32} {th : Int64} {x y : Int32} (h : ∀ p, p < 40 → bt th p = true → ¬ (xs p = x ∧ ys p = y)) : ∀ {n a : Nat}, a + n = 40 → atG xs ys th x y n a = 4294967295 := by
  intro n
  induction n with
  | zero => intro a _; rfl
  | succ n ih =>
    intro a ha
    have e : (bt th a && (decide (xs a = x) && decide (ys a = y))) = false := by
      cases hb : bt th a with
      | false => rfl
      | true =>
        have := h a (by omega) hb
        by_cases e1 : xs a = x
        · have e2 : ¬ ys a = y := fun e2 => this ⟨e1, e2⟩
          rw [decide_eq_false e2, Bool.and_false, Bool.and_false]
        · rw [decide_eq_false e1, Bool.false_and, Bool.and_false]
    rw [atG_f e]
    exact ih (by omega)
theorem trk_tk {m k : Nat} {xs ys : Nat → Int32} {th : Int64} {x y : Int32} (h : trk m k xs ys th) (hk : k < 36) (hs : sqB x y = true) (h1 : ¬ isPl m k x y) (h2 : ¬ isCo x y) : tkB xs ys th x y = true := by
  have ha : atG xs ys th x y 40 0 = 4294967295 := atG_none (fun p hp hb e => by
    rcases h p hp hb with ⟨_, h3⟩ | ⟨_, _, h3⟩
    · rw [e.1, e.2] at h3
      exact h2 h3
    · rw [e.1, e.2] at h3
      exact h1 h3) (by omega)
  obtain ⟨h3, h4⟩ := trk_free h hk
  unfold tkB
  rw [hs, ha, decide_eq_true rfl, decide_eq_false (nI_none (by omega))]
  rfl
/-- what is wanted of the places drawn: each in the square, none at a corner, none twice -/
def plOK (m n : Nat) : Prop := ∀ i, i < n → sqB (plX m i) (plY m i) = true ∧ ¬ isCo (plX m i) (plY m i) ∧ ¬ isPl m i (plX m i) (plY m i)
theorem l_drawnC {hx : Nat → Int32} {hy : Nat → Int32} {hn : Int32} {rd : Nat → Int32} {Q : pW} {m n : Nat} (hn20 : n ≤ 20) (hm : m ≤ 1000) (ok : plOK m n) : ∀ (d i : Nat), i + d = n → ∀ {xs ys : Nat → Int32} {th : Int64} {w : pW}, trk m i xs ys th → cK xs ys hx hy th hn (nI (gS i)) rd Q w → ∀ {lv : pLv}, lvLe [(4, .int (nI i)), (3, .int (nI i)), (0, .ref 0), (1, .int (nI n)), (2, .int (nI m))] lv → qE 120 (41, lv, [], w) (fun r w1 => r = some (.int (nI n)) ∧ ∃ (xs ys : Nat → Int32) (th : Int64) (g : Nat), cK xs ys hx hy th hn (nI g) rd Q w1) := by
  intro d
  induction d with
  | zero =>
    intro i hi xs ys th w ht h lv hl
    refine pe_less hl ?_
    obtain ⟨hs1, fx1, ap1, ow1, co1, en1, ne1, t1, e1, li1, wa1, qu1, n1, hap1, hco1, hqu1, ht1, he1, hn1, rfl⟩ := h
    refine pe_go rfl (s_iload rfl) ?_
    refine pe_go rfl (s_iload_n rfl) ?_
    refine pe_go rfl (s_icmp_ge_t ((nI_leI (by omega) (by omega)).mpr (by omega))) ?_
    refine pe_go rfl (s_iload_n rfl) ?_
    exact pe_ret rfl s_retI ⟨congrArg (fun k => some (Value.int (nI k))) (by omega : i = n), _, _, _, _, ⟨_, _, _, _, _, _, _, _, _, _, _, _, _, hap1, hco1, hqu1, (by omega), (by omega), (by omega), rfl⟩⟩
  | succ d ih =>
    intro i hi xs ys th w ht h lv hl
    refine pe_less hl ?_
    obtain ⟨hq, hco, hpl⟩ := ok i (by omega)
    have hk := trk_tk ht (by omega) hq hpl hco
    obtain ⟨hf1, hf2⟩ := trk_free ht (by omega)
    obtain ⟨hs1, fx1, ap1, ow1, co1, en1, ne1, t1, e1, li1, wa1, qu1, n1, hap1, hco1, hqu1, ht1, he1, hn1, rfl⟩ := h
    refine pe_go rfl (s_iload rfl) ?_
    refine pe_go rfl (s_iload_n rfl) ?_
    refine pe_go rfl (s_icmp_ge_f (fun e => absurd ((nI_leI (by omega) (by omega)).mp e) (by omega))) ?_
    refine pe_go rfl (s_aload_n rfl) ?_
    refine pe_go rfl (s_getf rfl rfl) ?_
    refine pe_go rfl (s_getf rfl rfl) ?_
    refine pe_go rfl (s_iload_n rfl) ?_
    refine pe_call rfl (s_invV rfl rfl rfl rfl) (c_draw (gS_lt i) (by omega)) ?_
    refine pe_go rfl (s_istore (lv' := [(5, .int (plX m i)), (4, .int (nI i)), (3, .int (nI i)), (0, .ref 0), (1, .int (nI n)), (2, .int (nI m))]) rfl) ?_
    refine pe_go rfl (s_aload_n rfl) ?_
    refine pe_go rfl (s_getf rfl rfl) ?_
    refine pe_go rfl (s_getf rfl rfl) ?_
    refine pe_go rfl (s_iload_n rfl) ?_
    refine pe_call rfl (s_invV rfl rfl rfl rfl) (c_draw dG_lt (by omega)) ?_
    refine pe_go rfl (s_istore (lv' := [(6, .int (plY m i)), (5, .int (plX m i)), (4, .int (nI i)), (3, .int (nI i)), (0, .ref 0), (1, .int (nI n)), (2, .int (nI m))]) rfl) ?_
    refine pe_go rfl (s_aload_n rfl) ?_
    refine pe_go rfl (s_getf rfl rfl) ?_
    refine pe_go rfl (s_iload rfl) ?_
    refine pe_go rfl (s_iload rfl) ?_
    refine pe_callE rfl (s_invV rfl rfl rfl rfl) (m_tell1 ⟨_, _, _, _, _, _, _, _, _, _, _, _, _, hap1, hco1, hqu1, (by omega), (by omega), (by omega), rfl⟩ hk) ?_
    rintro _ _ ⟨rfl, ⟨hs2, fx2, ap2, ow2, co2, en2, ne2, t2, e2, li2, wa2, qu2, n2, hap2, hco2, hqu2, ht2, he2, hn2, rfl⟩ | ⟨hs3, fx3, ap3, ow3, co3, en3, ne3, t3, e3, li3, wa3, qu3, n3, hap3, hco3, hqu3, ht3, he3, hn3, rfl⟩⟩
    · skip
      refine pe_go rfl s_iconst ?_
      refine pe_go rfl (s_icmp_eq_f (nI_none (k := luG th 36 4) (by omega))) ?_
      refine pe_go rfl (s_iincN (y := nI (i + 1)) rfl (nI_add _ _) (lv' := [(3, .int (nI (i + 1))), (6, .int (plY m i)), (5, .int (plX m i)), (4, .int (nI i)), (0, .ref 0), (1, .int (nI n)), (2, .int (nI m))]) rfl) ?_
      refine pe_go rfl (s_iincN (y := nI (i + 1)) rfl (nI_add _ _) (lv' := [(4, .int (nI (i + 1))), (3, .int (nI (i + 1))), (6, .int (plY m i)), (5, .int (plX m i)), (0, .ref 0), (1, .int (nI n)), (2, .int (nI m))]) rfl) ?_
      refine pe_go rfl s_goto ?_
      exact ih (i + 1) (by omega) (trk_s ht) ⟨_, _, _, _, _, _, _, _, _, _, _, _, _, hap2, hco2, hqu2, (by omega), (by omega), (by omega), rfl⟩ (lvLe_of rfl rfl (by repeat' (first | exact (fun _ h => absurd h List.not_mem_nil) | refine List.forall_mem_cons.mpr ⟨rfl, ?_⟩)))
    · skip
      refine pe_go rfl s_iconst ?_
      refine pe_go rfl (s_icmp_eq_f (nI_none (k := luG th 36 4) (by omega))) ?_
      refine pe_go rfl (s_iincN (y := nI (i + 1)) rfl (nI_add _ _) (lv' := [(3, .int (nI (i + 1))), (6, .int (plY m i)), (5, .int (plX m i)), (4, .int (nI i)), (0, .ref 0), (1, .int (nI n)), (2, .int (nI m))]) rfl) ?_
      refine pe_go rfl (s_iincN (y := nI (i + 1)) rfl (nI_add _ _) (lv' := [(4, .int (nI (i + 1))), (3, .int (nI (i + 1))), (6, .int (plY m i)), (5, .int (plX m i)), (0, .ref 0), (1, .int (nI n)), (2, .int (nI m))]) rfl) ?_
      refine pe_go rfl s_goto ?_
      exact ih (i + 1) (by omega) (trk_new ht (by omega)) ⟨_, _, _, _, _, _, _, _, _, _, _, _, _, hap3, hco3, hqu3, (by omega), (by omega), (by omega), rfl⟩ (lvLe_of rfl rfl (by repeat' (first | exact (fun _ h => absurd h List.not_mem_nil) | refine List.forall_mem_cons.mpr ⟨rfl, ?_⟩)))
