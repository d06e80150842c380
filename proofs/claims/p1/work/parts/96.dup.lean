/-! PLACES THAT COME TWICE: how many are counted, on both sides, where the earlier ones are known to be taken. By hand and by program (wip/tools/lay2.py, mk8a.py, mk96a.py). -/
def eqB (m j i : Nat) : Bool := Nat.beq (pXn m j) (pXn m i) && Nat.beq (pYn m j) (pYn m i)
theorem eqB_ok {m j i : Nat} (h : eqB m j i = true) : pXn m j = pXn m i ∧ pYn m j = pYn m i := by
  unfold eqB at h
  rw [Bool.and_eq_true] at h
  exact ⟨Nat.eq_of_beq_eq_true h.1, Nat.eq_of_beq_eq_true h.2⟩
theorem eqB_mk {m j i : Nat} (h1 : pXn m j = pXn m i) (h2 : pYn m j = pYn m i) : eqB m j i = true := by
  unfold eqB
  rw [h1, h2, Nat.beq_refl, Nat.beq_refl]
  rfl
/-- whether the i-th place is a new one -/
def hitB (m i : Nat) : Bool := !((List.range i).any (fun j => eqB m j i))
/-- how many of the first i are -/
def cn (m : Nat) : Nat → Nat
  | 0 => 0
  | i + 1 => bif hitB m i then cn m i + 1 else cn m i
theorem cn_le {m : Nat} : ∀ (i : Nat), cn m i ≤ i
  | 0 => Nat.le_refl _
  | i + 1 => by
    have := cn_le (m := m) i
    show (bif hitB m i then cn m i + 1 else cn m i) ≤ i + 1
    cases hitB m i
    · show cn m i ≤ i + 1
      omega
    · show cn m i + 1 ≤ i + 1
      omega
theorem hitB_t {m i j : Nat} (h : hitB m i = true) (hj : j < i) : ¬ (pXn m j = pXn m i ∧ pYn m j = pYn m i) := by
  intro e
  unfold hitB at h
  rw [Bool.not_eq_true'] at h
  have := List.any_eq_false.mp h j (List.mem_range.mpr hj)
  exact this (eqB_mk e.1 e.2)
theorem hitB_f {m i : Nat} (h : hitB m i = false) : ∃ j, j < i ∧ pXn m j = pXn m i ∧ pYn m j = pYn m i := by
  unfold hitB at h
  rw [Bool.not_eq_false', List.any_eq_true] at h
  obtain ⟨j, h1, h2⟩ := h
  exact ⟨j, List.mem_range.mp h1, eqB_ok h2⟩
/-- all places lie within the square -/
theorem run_in {m e : Nat} : ∀ {G : List (Nat × Nat)} {P : List PT} {D : List TR} {N i : Nat}, runM m e G P D N = true → mInv P D N → gch (gS i) G → ∀ j, i ≤ j → j < i + G.length → 1 ≤ pXn m j ∧ pXn m j ≤ 1999 ∧ 1 ≤ pYn m j ∧ pYn m j ≤ 1999 := by
  intro G
  induction G with
  | nil => intro P D N i _ _ _ j h1 h2; rw [List.length_nil] at h2; omega
  | cons g G ih =>
    intro P D N i h I hg j h1 h2
    rw [List.length_cons] at h2
    rw [runM_s] at h
    obtain ⟨hg1, hg2⟩ := hg
    subst hg1
    obtain ⟨X, Y, hX, hY, hx, h3⟩ := stp_ok h I
    have hX : X = pXn m i := hX
    have hY : Y = pYn m i := hY
    by_cases hj : j = i
    · subst hj
      rw [← hX, ← hY]
      exact hx
    · rcases h3 with h3 | ⟨_, D', I', h'⟩
      · exact ih (i := i + 1) h3.2 I hg2 j (by omega) (by omega)
      · exact ih (i := i + 1) h' I' hg2 j (by omega) (by omega)
/-- points are corners or places that came -/
def isOf (m i : Nat) (P : List PT) (N : Nat) : Prop := (∀ j, j < i → isAt P N (pXn m j) (pYn m j)) ∧ (∀ k, k < N → ((lk P k).1.2 = 0 ∨ (lk P k).1.2 = 2000) ∨ ∃ j, j < i ∧ (lk P k).1.2 = pXn m j ∧ (lk P k).2.1.1 = pYn m j)
theorem isOf_hit {m i : Nat} {P : List PT} {N : Nat} (h : isOf m i P N) (hx : 1 ≤ pXn m i ∧ pXn m i ≤ 1999) : isAt P N (pXn m i) (pYn m i) ↔ hitB m i = false := by
  constructor
  · rintro ⟨k, k1, k2, k3⟩
    cases e : hitB m i with
    | false => rfl
    | true =>
      exfalso
      rcases h.2 k k1 with h2 | ⟨j, j1, j2, j3⟩
      · omega
      · exact hitB_t e j1 ⟨by omega, by omega⟩
  · intro e
    obtain ⟨j, j1, j2, j3⟩ := hitB_f e
    rw [← j2, ← j3]
    exact h.1 j j1
theorem run_cnt {m e : Nat} (hm : m ≤ 1000) : ∀ {G : List (Nat × Nat)} {P : List PT} {D : List TR} {N i came : Nat} {f : Nat → Int32}, runM m e G P D N = true → mInv P D N → fInv f P N (gS i) → gch (gS i) G → N + G.length ≤ 40 → isOf m i P N → came = cn m i → ∀ n, n ≤ G.length → (dAll m n f (gS i) came).2 = cn m (i + n) := by
  intro G
  induction G with
  | nil =>
    intro P D N i came f h I hF hg hN ho hc n hn
    obtain rfl : n = 0 := Nat.le_zero.mp hn
    exact hc
  | cons e0 G ih =>
    intro P D N i came f h I hF hg hN ho hc n hn
    rw [List.length_cons] at hN hn
    cases n with
    | zero => exact hc
    | succ n =>
      rw [runM_s] at h
      obtain ⟨hg1, hg2⟩ := hg
      subst hg1
      obtain ⟨X, Y, hX, hY, hx, h3⟩ := stp_ok h I
      have hS := f_step I (by omega) hF hm hX hY hx
      have hX : X = pXn m i := hX
      have hY : Y = pYn m i := hY
      show (dAll m n (dNew f m (gS i)) (gS (i + 1)) (bif dHit f m (gS i) then came + 1 else came)).2 = cn m (i + (n + 1))
      rw [show i + (n + 1) = (i + 1) + n by omega]
      rcases h3 with ⟨h4, h5⟩ | ⟨h4, D', I', h'⟩
      · obtain ⟨s1, s2⟩ := hS.1 h4
        rw [hX, hY] at h4
        have e := (isOf_hit ho (by rw [← hX]; omega)).mp h4
        refine ih (i := i + 1) h5 I s2 hg2 (by omega) ⟨fun j hj => ?_, fun k hk => ?_⟩ ?_ n (by omega)
        · by_cases hji : j = i
          · rw [hji]
            exact h4
          · exact ho.1 j (by omega)
        · rcases ho.2 k hk with h | ⟨j, j1, j2⟩
          · exact .inl h
          · exact .inr ⟨j, by omega, j2⟩
        · show (bif dHit f m (gS i) then came + 1 else came) = (bif hitB m i then cn m i + 1 else cn m i)
          rw [s1, e]
          exact hc
      · obtain ⟨s1, s2⟩ := hS.2 h4
        have e : hitB m i = true := by
          cases e : hitB m i with
          | true => rfl
          | false =>
            exfalso
            apply h4
            rw [hX, hY]
            exact (isOf_hit ho (by rw [← hX]; omega)).mpr e
        refine ih (i := i + 1) h' I' s2 hg2 (by omega) ⟨fun j hj => ?_, fun k hk => ?_⟩ ?_ n (by omega)
        · by_cases hji : j = i
          · rw [hji, ← hX, ← hY]
            exact isAt_top
          · exact isAt_new (ho.1 j (by omega))
        · by_cases hkN : k = N
          · subst hkN
            rw [lk_top]
            exact .inr ⟨i, by omega, hX, hY⟩
          · rw [lk_new (by omega)]
            rcases ho.2 k (by omega) with h | ⟨j, j1, j2⟩
            · exact .inl h
            · exact .inr ⟨j, by omega, j2⟩
        · show (bif dHit f m (gS i) then came + 1 else came) = (bif hitB m i then cn m i + 1 else cn m i)
          rw [s1, e, cond_true, cond_true, hc]
theorem isOf_0 {m : Nat} : isOf m 0 P0 4 := ⟨fun j hj => absurd hj (Nat.not_lt_zero j), fun k hk => by
  match k, hk with
  | 0, _ => exact .inl (.inl (by decide +kernel))
  | 1, _ => exact .inl (.inr (by decide +kernel))
  | 2, _ => exact .inl (.inr (by decide +kernel))
  | 3, _ => exact .inl (.inl (by decide +kernel))⟩
/-- the reference's part of a width -/
theorem ref_ok {m e n : Nat} (hm : m ≤ 1000) (hn : n ≤ 20) (h : runM m e GL P0 D0 4 = true) : (dAll m n f00 313 0).2 = cn m n ∧ (∃ L, layF (dAll m n f00 313 0).1 = some L ∧ good L) ∧ ∀ i, i < 20 → 1 ≤ pXn m i ∧ pXn m i ≤ 1999 ∧ 1 ≤ pYn m i ∧ pYn m i ≤ 1999 := by
  refine ⟨?_, run_lay hm h m0 f00_i gchGL (by decide) n (by show n ≤ 20; exact hn), fun i hi => run_in (i := 0) h m0 gchGL i (Nat.zero_le i) (by show i < 0 + 20; omega)⟩
  have := run_cnt (i := 0) (came := 0) hm h m0 f00_i gchGL (by decide) isOf_0 rfl n (by show n ≤ 20; exact hn)
  rw [Nat.zero_add] at this
  exact this
-- the class's part
def isPd (m : Nat) (xs ys : Nat → Int32) (th : Int64) (j : Nat) : Prop := ∃ p, p < 40 ∧ bt th p = true ∧ xs p = plX m j ∧ ys p = plY m j
theorem isPd_new {m j : Nat} {xs ys : Nat → Int32} {th : Int64} {x y : Int32} {k : Nat} (hk : k < 40) (hb : bt th k = false) (h : isPd m xs ys th j) : isPd m (upd xs k x) (upd ys k y) (th ||| sh1 k) j := by
  obtain ⟨p, h1, h2, h3, h4⟩ := h
  have hne : p ≠ k := fun e => by
    rw [e, hb] at h2
    cases h2
  refine ⟨p, h1, ?_, ?_, ?_⟩
  · rw [bt_or (by omega) (by omega), h2]
    rfl
  · unfold upd
    rw [if_neg hne]
    exact h3
  · unfold upd
    rw [if_neg hne]
    exact h4
theorem luG_free {th : Int64} : ∀ {n a : Nat}, a + n = 40 → luG th n a < 40 → bt th (luG th n a) = false := by
  intro n
  induction n with
  | zero =>
    intro a h1 h2
    have h2 : 4294967295 < 40 := h2
    omega
  | succ n ih =>
    intro a h1 h2
    cases h : bt th a with
    | true =>
      rw [luG_t h] at h2 ⊢
      exact ih (by omega) h2
    | false =>
      rw [luG_f h]
      exact h
theorem atG_hit {xs ys : Nat → Int32} {th : Int64} {x y : Int32} {p : Nat} (hp : p < 40) (h : (bt th p && (decide (xs p = x) && decide (ys p = y))) = true) : ∀ {n a : Nat}, a + n = 40 → a ≤ p → atG xs ys th x y n a < 40 := by
  intro n
  induction n with
  | zero => intro a h1 h2; omega
  | succ n ih =>
    intro a h1 h2
    cases e : (bt th a && (decide (xs a = x) && decide (ys a = y))) with
    | true =>
      rw [atG_t e]
      omega
    | false =>
      rw [atG_f e]
      have : a ≠ p := fun e2 => by
        rw [e2, h] at e
        cases e
      exact ih (by omega) (by omega)
theorem tk_pd {m j : Nat} {xs ys : Nat → Int32} {th : Int64} (h : isPd m xs ys th j) : tkB xs ys th (plX m j) (plY m j) = false := by
  obtain ⟨p, h1, h2, h3, h4⟩ := h
  have := atG_hit (xs := xs) (ys := ys) (th := th) (x := plX m j) (y := plY m j) h1 (by rw [h2, h3, h4, decide_eq_true rfl, decide_eq_true rfl]; rfl) (n := 40) (a := 0) (by omega) (by omega)
  unfold tkB
  rw [decide_eq_false (nI_none (by omega)), Bool.false_and, Bool.and_false]
/-- what is wanted of the places from the K-th on: a new one, or one of the first K -/
def srcB (m K n : Nat) : Bool := (List.range n).all (fun i => Nat.ble (i + 1) K || (hitB m i || (List.range K).any (fun j => eqB m j i)))
theorem srcB_ok {m K n i : Nat} (h : srcB m K n = true) (h1 : K ≤ i) (h2 : i < n) : hitB m i = true ∨ ∃ j, j < K ∧ pXn m j = pXn m i ∧ pYn m j = pYn m i := by
  have := List.all_eq_true.mp h i (List.mem_range.mpr h2)
  rw [Bool.or_eq_true, Bool.or_eq_true, List.any_eq_true] at this
  rcases this with g | g | ⟨j, g1, g2⟩
  · have := Nat.le_of_ble_eq_true g
    omega
  · exact .inl g
  · exact .inr ⟨j, List.mem_range.mp g1, eqB_ok g2⟩
theorem l_drawnD {hx : Nat → Int32} {hy : Nat → Int32} {hn : Int32} {rd : Nat → Int32} {Q : pW} {m n K : Nat} (hn20 : n ≤ 20) (hm : m ≤ 1000) (hin : ∀ i, i < 20 → 1 ≤ pXn m i ∧ pXn m i ≤ 1999 ∧ 1 ≤ pYn m i ∧ pYn m i ≤ 1999) (hsr : srcB m K n = true) : ∀ (d i : Nat), i + d = n → K ≤ i → ∀ {c : Nat}, c = cn m i → ∀ {xs ys : Nat → Int32} {th : Int64} {w : pW}, trk m i xs ys th → (∀ j, j < K → isPd m xs ys th j) → cK xs ys hx hy th hn (nI (gS i)) rd Q w → ∀ {lv : pLv}, lvLe [(4, .int (nI i)), (3, .int (nI c)), (0, .ref 0), (1, .int (nI n)), (2, .int (nI m))] lv → qE 120 (41, lv, [], w) (fun r w1 => r = some (.int (nI (cn m n))) ∧ ∃ (xs ys : Nat → Int32) (th : Int64) (g : Nat), cK xs ys hx hy th hn (nI g) rd Q w1) := by
  intro d
  induction d with
  | zero =>
    intro i hi hKi c hc xs ys th w ht hpd h lv hl
    refine pe_less hl ?_
    obtain ⟨hs1, fx1, ap1, ow1, co1, en1, ne1, t1, e1, li1, wa1, qu1, n1, hap1, hco1, hqu1, ht1, he1, hn1, rfl⟩ := h
    refine pe_go rfl (s_iload rfl) ?_
    refine pe_go rfl (s_iload_n rfl) ?_
    refine pe_go rfl (s_icmp_ge_t ((nI_leI (by omega) (by omega)).mpr (by omega))) ?_
    refine pe_go rfl (s_iload_n rfl) ?_
    exact pe_ret rfl s_retI ⟨congrArg (fun k => some (Value.int (nI k))) (by rw [hc, show i = n by omega]), _, _, _, _, ⟨_, _, _, _, _, _, _, _, _, _, _, _, _, hap1, hco1, hqu1, (by omega), (by omega), (by omega), rfl⟩⟩
  | succ d ih =>
    intro i hi hKi c hc xs ys th w ht hpd h lv hl
    refine pe_less hl ?_
    have hcl : c ≤ i := by rw [hc]; exact cn_le i
    have hx0 := hin i (by omega)
    obtain ⟨hf1, hf2⟩ := trk_free ht (by omega)
    cases hh : hitB m i with
    | true =>
      have hk : tkB xs ys th (plX m i) (plY m i) = true := by
        refine trk_tk ht (by omega) ?_ ?_ ?_
        · rw [plX_e hm, plY_e hm]
          exact sq_pl (by omega) (by omega)
        · rintro ⟨j, j1, j2, j3⟩
          rw [plX_e hm, plX_e hm, ofInt_eq (by omega) (pXn_le hm).1] at j2
          rw [plY_e hm, plY_e hm, ofInt_eq (by omega) (pXn_le hm).2] at j3
          exact hitB_t hh j1 ⟨j2.symm, j3.symm⟩
        · rw [plX_e hm, plY_e hm]
          exact co_pl hx0.1 hx0.2.1
      obtain ⟨hs1, fx1, ap1, ow1, co1, en1, ne1, t1, e1, li1, wa1, qu1, n1, hap1, hco1, hqu1, ht1, he1, hn1, rfl⟩ := h
      refine pe_go rfl (s_iload rfl) ?_
      refine pe_go rfl (s_iload_n rfl) ?_
      refine pe_go rfl (s_icmp_ge_f (fun e => absurd ((nI_leI (by omega) (by omega)).mp e) (by omega))) ?_
      refine pe_go rfl (s_aload_n rfl) ?_
      refine pe_go rfl (s_getf rfl rfl) ?_
      refine pe_go rfl (s_getf rfl rfl) ?_
      refine pe_go rfl (s_iload_n rfl) ?_
      refine pe_call rfl (s_invV rfl rfl rfl rfl) (c_draw (gS_lt i) (by omega)) ?_
      refine pe_go rfl (s_istore (lv' := [(5, .int (plX m i)), (4, .int (nI i)), (3, .int (nI c)), (0, .ref 0), (1, .int (nI n)), (2, .int (nI m))]) rfl) ?_
      refine pe_go rfl (s_aload_n rfl) ?_
      refine pe_go rfl (s_getf rfl rfl) ?_
      refine pe_go rfl (s_getf rfl rfl) ?_
      refine pe_go rfl (s_iload_n rfl) ?_
      refine pe_call rfl (s_invV rfl rfl rfl rfl) (c_draw dG_lt (by omega)) ?_
      refine pe_go rfl (s_istore (lv' := [(6, .int (plY m i)), (5, .int (plX m i)), (4, .int (nI i)), (3, .int (nI c)), (0, .ref 0), (1, .int (nI n)), (2, .int (nI m))]) rfl) ?_
      refine pe_go rfl (s_aload_n rfl) ?_
      refine pe_go rfl (s_getf rfl rfl) ?_
      refine pe_go rfl (s_iload rfl) ?_
      refine pe_go rfl (s_iload rfl) ?_
      refine pe_callE rfl (s_invV rfl rfl rfl rfl) (m_tell1 ⟨_, _, _, _, _, _, _, _, _, _, _, _, _, hap1, hco1, hqu1, (by omega), (by omega), (by omega), rfl⟩ hk) ?_
      rintro _ _ ⟨rfl, ⟨hs2, fx2, ap2, ow2, co2, en2, ne2, t2, e2, li2, wa2, qu2, n2, hap2, hco2, hqu2, ht2, he2, hn2, rfl⟩ | ⟨hs3, fx3, ap3, ow3, co3, en3, ne3, t3, e3, li3, wa3, qu3, n3, hap3, hco3, hqu3, ht3, he3, hn3, rfl⟩⟩
      · skip
        refine pe_go rfl s_iconst ?_
        refine pe_go rfl (s_icmp_eq_f (nI_none (k := luG th 36 4) (by omega))) ?_
        refine pe_go rfl (s_iincN (y := nI (c + 1)) rfl (nI_add _ _) (lv' := [(3, .int (nI (c + 1))), (6, .int (plY m i)), (5, .int (plX m i)), (4, .int (nI i)), (0, .ref 0), (1, .int (nI n)), (2, .int (nI m))]) rfl) ?_
        refine pe_go rfl (s_iincN (y := nI (i + 1)) rfl (nI_add _ _) (lv' := [(4, .int (nI (i + 1))), (3, .int (nI (c + 1))), (6, .int (plY m i)), (5, .int (plX m i)), (0, .ref 0), (1, .int (nI n)), (2, .int (nI m))]) rfl) ?_
        refine pe_go rfl s_goto ?_
        exact ih (i + 1) (by omega) (by omega) (by show c + 1 = (bif hitB m i then cn m i + 1 else cn m i); rw [hh, hc]; rfl) (trk_s ht) hpd ⟨_, _, _, _, _, _, _, _, _, _, _, _, _, hap2, hco2, hqu2, (by omega), (by omega), (by omega), rfl⟩ (lvLe_of rfl rfl (by repeat' (first | exact (fun _ h => absurd h List.not_mem_nil) | refine List.forall_mem_cons.mpr ⟨rfl, ?_⟩)))
      · skip
        refine pe_go rfl s_iconst ?_
        refine pe_go rfl (s_icmp_eq_f (nI_none (k := luG th 36 4) (by omega))) ?_
        refine pe_go rfl (s_iincN (y := nI (c + 1)) rfl (nI_add _ _) (lv' := [(3, .int (nI (c + 1))), (6, .int (plY m i)), (5, .int (plX m i)), (4, .int (nI i)), (0, .ref 0), (1, .int (nI n)), (2, .int (nI m))]) rfl) ?_
        refine pe_go rfl (s_iincN (y := nI (i + 1)) rfl (nI_add _ _) (lv' := [(4, .int (nI (i + 1))), (3, .int (nI (c + 1))), (6, .int (plY m i)), (5, .int (plX m i)), (0, .ref 0), (1, .int (nI n)), (2, .int (nI m))]) rfl) ?_
        refine pe_go rfl s_goto ?_
        exact ih (i + 1) (by omega) (by omega) (by show c + 1 = (bif hitB m i then cn m i + 1 else cn m i); rw [hh, hc]; rfl) (trk_new ht (by omega)) (fun j hj => isPd_new (by omega) (luG_free (by omega) (by omega)) (hpd j hj)) ⟨_, _, _, _, _, _, _, _, _, _, _, _, _, hap3, hco3, hqu3, (by omega), (by omega), (by omega), rfl⟩ (lvLe_of rfl rfl (by repeat' (first | exact (fun _ h => absurd h List.not_mem_nil) | refine List.forall_mem_cons.mpr ⟨rfl, ?_⟩)))
    | false =>
      have hk : tkB xs ys th (plX m i) (plY m i) = false := by
        rcases srcB_ok hsr hKi (by omega) with g | ⟨j, j1, j2, j3⟩
        · rw [hh] at g
          cases g
        · have := tk_pd (hpd j j1)
          rw [plX_e hm, plY_e hm, j2, j3, ← plX_e hm, ← plY_e hm] at this
          exact this
      obtain ⟨hs1, fx1, ap1, ow1, co1, en1, ne1, t1, e1, li1, wa1, qu1, n1, hap1, hco1, hqu1, ht1, he1, hn1, rfl⟩ := h
      refine pe_go rfl (s_iload rfl) ?_
      refine pe_go rfl (s_iload_n rfl) ?_
      refine pe_go rfl (s_icmp_ge_f (fun e => absurd ((nI_leI (by omega) (by omega)).mp e) (by omega))) ?_
      refine pe_go rfl (s_aload_n rfl) ?_
      refine pe_go rfl (s_getf rfl rfl) ?_
      refine pe_go rfl (s_getf rfl rfl) ?_
      refine pe_go rfl (s_iload_n rfl) ?_
      refine pe_call rfl (s_invV rfl rfl rfl rfl) (c_draw (gS_lt i) (by omega)) ?_
      refine pe_go rfl (s_istore (lv' := [(5, .int (plX m i)), (4, .int (nI i)), (3, .int (nI c)), (0, .ref 0), (1, .int (nI n)), (2, .int (nI m))]) rfl) ?_
      refine pe_go rfl (s_aload_n rfl) ?_
      refine pe_go rfl (s_getf rfl rfl) ?_
      refine pe_go rfl (s_getf rfl rfl) ?_
      refine pe_go rfl (s_iload_n rfl) ?_
      refine pe_call rfl (s_invV rfl rfl rfl rfl) (c_draw dG_lt (by omega)) ?_
      refine pe_go rfl (s_istore (lv' := [(6, .int (plY m i)), (5, .int (plX m i)), (4, .int (nI i)), (3, .int (nI c)), (0, .ref 0), (1, .int (nI n)), (2, .int (nI m))]) rfl) ?_
      refine pe_go rfl (s_aload_n rfl) ?_
      refine pe_go rfl (s_getf rfl rfl) ?_
      refine pe_go rfl (s_iload rfl) ?_
      refine pe_go rfl (s_iload rfl) ?_
      refine pe_callE rfl (s_invV rfl rfl rfl rfl) (m_tell0 ⟨_, _, _, _, _, _, _, _, _, _, _, _, _, hap1, hco1, hqu1, (by omega), (by omega), (by omega), rfl⟩ hk) ?_
      rintro _ _ ⟨rfl, hs2, fx2, ap2, ow2, co2, en2, ne2, t2, e2, li2, wa2, qu2, n2, hap2, hco2, hqu2, ht2, he2, hn2, rfl⟩
      refine pe_go rfl s_iconst ?_
      refine pe_go rfl (s_icmp_eq_t rfl) ?_
      refine pe_go rfl (s_iincN (y := nI (i + 1)) rfl (nI_add _ _) (lv' := [(4, .int (nI (i + 1))), (6, .int (plY m i)), (5, .int (plX m i)), (3, .int (nI c)), (0, .ref 0), (1, .int (nI n)), (2, .int (nI m))]) rfl) ?_
      refine pe_go rfl s_goto ?_
      exact ih (i + 1) (by omega) (by omega) (by show c = (bif hitB m i then cn m i + 1 else cn m i); rw [hh, hc]; rfl) (trk_s ht) hpd ⟨_, _, _, _, _, _, _, _, _, _, _, _, _, hap2, hco2, hqu2, (by omega), (by omega), (by omega), rfl⟩ (lvLe_of rfl rfl (by repeat' (first | exact (fun _ h => absurd h List.not_mem_nil) | refine List.forall_mem_cons.mpr ⟨rfl, ?_⟩)))
