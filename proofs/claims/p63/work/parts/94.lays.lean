/-! THE LAW'S SHEETS: a point laid, told. By hand, rows laid by program (wip/p63/wk.py, hw.py, mk94.py). -/
theorem Sh.fixes_1 (X : Sh) (p q : Nat) (how : Int) : (X.fixes p q how).1 = X.1 := rfl
theorem Sh.fixes_at (X : Sh) {p q : Nat} (how : Int) (i j : Nat) : (X.fixes p q how).2.1 i j = if (i = p ∧ j = q) ∨ (i = q ∧ j = p) then how else X.2.1 i j := by
  show (if i = q then uZ (if q = p then uZ (X.2.1 p) q how else X.2.1 q) p how else (if i = p then uZ (X.2.1 p) q how else X.2.1 i)) j = _
  by_cases c1 : i = q
  · subst c1
    rw [if_pos rfl]
    by_cases c2 : j = p
    · subst c2
      rw [uZ_at, if_pos (Or.inr ⟨rfl, rfl⟩)]
    · rw [uZ_ne c2]
      by_cases c3 : i = p
      · subst c3
        rw [if_pos rfl, uZ_ne c2, if_neg (by omega)]
      · rw [if_neg c3, if_neg (by omega)]
  · rw [if_neg c1]
    by_cases c3 : i = p
    · subst c3
      rw [if_pos rfl]
      by_cases c2 : j = q
      · subst c2
        rw [uZ_at, if_pos (Or.inl ⟨rfl, rfl⟩)]
      · rw [uZ_ne c2, if_neg (by omega)]
    · rw [if_neg c3, if_neg (by omega)]
theorem sh_obj {w : pW} {O Q : Nat → Prop} {a : Nat} {X : Sh} (h : shAt w O Q a X) : ∃ fs : List Value, w[a]? = some (.inr (9, fs)) := by
  obtain ⟨pa, fa, ha, pf, gf, hf, ff, hb, h0, -⟩ := h
  exact ⟨_, h0⟩
/-- numbers within their bounds, fixed edges between points that are there -/
def Sh.In (X : Sh) : Prop := (∀ (k : Nat) (x y z : Int), k < 40 → X.1 k = some (x, y, z) → inSq x y ∧ -9999 ≤ z ∧ z ≤ 9999) ∧ (∀ i j : Nat, i < 40 → j < 40 → 0 ≤ X.2.1 i j ∧ X.2.1 i j ≤ 2) ∧ (∀ i j : Nat, i < 40 → j < 40 → X.2.1 i j ≠ 0 → (X.1 i).isSome = true ∧ (X.1 j).isSome = true) ∧ (0 ≤ X.2.2.2 ∧ X.2.2.2 < 30047)
theorem Sh.In_fixes {X : Sh} (h : X.In) {p q : Nat} {how : Int} (h1 : 0 ≤ how) (h2 : how ≤ 2) (h3 : how ≠ 0 → (X.1 p).isSome = true ∧ (X.1 q).isSome = true) : (X.fixes p q how).In := by
  obtain ⟨k1, k2, k3, k4⟩ := h
  refine ⟨k1, fun i j hi hj => ?_, fun i j hi hj hn => ?_, k4⟩
  · rw [Sh.fixes_at]
    split
    · exact ⟨h1, h2⟩
    · exact k2 i j hi hj
  · rw [Sh.fixes_at] at hn
    rw [Sh.fixes_1]
    split at hn
    · rename_i e
      rcases e with ⟨rfl, rfl⟩ | ⟨rfl, rfl⟩
      · exact h3 hn
      · exact (h3 hn).symm
    · exact k3 i j hi hj hn
/-- the edge p q, on which k lies, made two -/
def Sh.lay1 (X : Sh) (k : Nat) (x y : Int) (p q : Nat) : Sh := if X.2.1 p q ≠ 0 ∧ btw2 (X.cx p) (X.cy p) (X.cx q) (X.cy q) x y then ((X.fixes p q 0).fixes p k (X.2.1 p q)).fixes q k (X.2.1 p q) else X
theorem Sh.lay1_1 (X : Sh) (k : Nat) (x y : Int) (p q : Nat) : (X.lay1 k x y p q).1 = X.1 ∧ (X.lay1 k x y p q).2.2 = X.2.2 := by
  unfold Sh.lay1
  split
  · exact ⟨rfl, rfl⟩
  · exact ⟨rfl, rfl⟩
theorem Sh.In_lay1 {X : Sh} (h : X.In) {k : Nat} {x y : Int} {p q : Nat} (hk : (X.1 k).isSome = true) (hp : p < 40) (hq : q < 40) : (X.lay1 k x y p q).In := by
  unfold Sh.lay1
  split
  · rename_i c
    obtain ⟨a, b⟩ := h.2.1 p q hp hq
    obtain ⟨sp, sq⟩ := h.2.2.1 p q hp hq c.1
    exact Sh.In_fixes (Sh.In_fixes (Sh.In_fixes h (Int.le_refl 0) (by decide) (fun z => absurd rfl z)) a b (fun _ => ⟨sp, hk⟩)) a b (fun _ => ⟨sq, hk⟩)
  · exact h
def Sh.layJ (k : Nat) (x y : Int) (p : Nat) : Nat → Nat → Sh → Sh
  | 0, _, X => X
  | n + 1, q, X => Sh.layJ k x y p n (q + 1) (X.lay1 k x y p q)
def Sh.layI (k : Nat) (x y : Int) : Nat → Nat → Sh → Sh
  | 0, _, X => X
  | n + 1, p, X => Sh.layI k x y n (p + 1) (Sh.layJ k x y p p 0 X)
theorem Sh.layJ_ok {k : Nat} {x y : Int} {p : Nat} (hp : p < 40) : ∀ (n q : Nat) (X : Sh), q + n ≤ 40 → X.In → (X.1 k).isSome = true → (Sh.layJ k x y p n q X).In ∧ (Sh.layJ k x y p n q X).1 = X.1 ∧ (Sh.layJ k x y p n q X).2.2 = X.2.2 := by
  intro n
  induction n with
  | zero => intro q X _ h _; exact ⟨h, rfl, rfl⟩
  | succ n ih =>
    intro q X hq h hk
    obtain ⟨e1, e2⟩ := X.lay1_1 k x y p q
    obtain ⟨a, b, c⟩ := ih (q + 1) (X.lay1 k x y p q) (by omega) (Sh.In_lay1 h hk hp (by omega)) (by rw [e1]; exact hk)
    exact ⟨a, b.trans e1, c.trans e2⟩
theorem Sh.layI_ok {k : Nat} {x y : Int} : ∀ (n p : Nat) (X : Sh), p + n ≤ 40 → X.In → (X.1 k).isSome = true → (Sh.layI k x y n p X).In ∧ (Sh.layI k x y n p X).1 = X.1 ∧ (Sh.layI k x y n p X).2.2 = X.2.2 := by
  intro n
  induction n with
  | zero => intro p X _ h _; exact ⟨h, rfl, rfl⟩
  | succ n ih =>
    intro p X hp h hk
    obtain ⟨a, b, c⟩ := Sh.layJ_ok (k := k) (x := x) (y := y) (show p < 40 by omega) p 0 X (by omega) h hk
    obtain ⟨a', b', c'⟩ := ih (p + 1) _ (by omega) a (by rw [b]; exact hk)
    exact ⟨a', b'.trans b, c'.trans c⟩
/-- the point k laid at x, y -/
def Sh.lays (X : Sh) (k : Nat) (x y z : Int) : Sh := Sh.layI k x y 40 0 (X.uP k (some (x, y, z)))
theorem own_refl (O : Nat → Prop) (w : pW) : own O w w := ⟨agr_refl O w, gro_0 w⟩
theorem l_layJ {O Q : Nat → Prop} {a k : Nat} {x y h : Int} (hk : k < 40) (hi : inSq x y) {p : Nat} (hp : p < 40) {Φ : Option Value → pW → Prop} : ∀ (n q : Nat) (X : Sh) (w : pW), q + n = p → X.In → (X.1 k).isSome = true → shAt w O Q a X → (∀ w' : pW, shAt w' O Q a (Sh.layJ k x y p n q X) → own O w w' → qE 129 (108, [(6, .int (iI (p : Int))), (5, .int (iI (p : Int))), (0, .ref a), (1, .int (iI (k : Int))), (2, .int (iI x)), (3, .int (iI y)), (4, .int (iI h))], [], w') Φ) → qE 129 (35, [(6, .int (iI (q : Int))), (5, .int (iI (p : Int))), (0, .ref a), (1, .int (iI (k : Int))), (2, .int (iI x)), (3, .int (iI y)), (4, .int (iI h))], [], w) Φ := by
  intro n
  induction n with
  | zero =>
    intro q X w hq hI hk1 hS K
    refine pe_go (pc := 35) rfl (s_iload rfl) ?_
    refine pe_go (pc := 37) rfl (s_iload rfl) ?_
    refine pe_go rfl (s_icmp_ge_t ⟨by omega, by omega⟩ ⟨by omega, by omega⟩ (by omega)) ?_
    rw [show q = p by omega]
    exact K w hS (own_refl O w)
  | succ n ih =>
    intro q X w hq hI hk1 hS K
    have hSS := hS
    obtain ⟨pa, fa, ha, pf, gf, hf, ff, hP⟩ := hS
    obtain ⟨hb, h0, h1, h2, h3, h4, h5, h6, h7, h8, h9⟩ := hP
    obtain ⟨e1, -, e3⟩ := h5 p hp
    obtain ⟨b1, b2⟩ := hI.2.1 p q hp (by omega)
    by_cases c0 : X.2.1 p q = 0
    · skip
      refine pe_go (pc := 35) rfl (s_iload rfl) ?_
      refine pe_go (pc := 37) rfl (s_iload rfl) ?_
      refine pe_go rfl (s_icmp_ge_f ⟨by omega, by omega⟩ ⟨by omega, by omega⟩ (by omega)) ?_
      refine pe_go (pc := 42) rfl (s_aload_n rfl) ?_
      refine pe_go (pc := 43) rfl (s_getf (v := .ref fa) h0 rfl) ?_
      refine pe_go (pc := 46) rfl (s_iload rfl) ?_
      refine pe_go (pc := 48) rfl (s_aald h4 (k := p) (by omega) (by omega) e1) ?_
      refine pe_go (pc := 49) rfl (s_iload rfl) ?_
      refine pe_go (pc := 51) rfl (s_iald (n := 40) (f := X.2.1 p) (v := (X.2.1 p) q) e3 (k := q) (by omega) (by omega) (by decide) rfl) ?_
      refine pe_go (pc := 52) rfl (s_istore (lv' := [(7, .int (iI ((X.2.1 p) q))), (6, .int (iI (q : Int))), (5, .int (iI (p : Int))), (0, .ref a), (1, .int (iI (k : Int))), (2, .int (iI x)), (3, .int (iI y)), (4, .int (iI h))]) rfl) ?_
      refine pe_go (pc := 54) rfl (s_iload rfl) ?_
      refine pe_go rfl (s_if_eq_t ⟨by omega, by omega⟩ c0) ?_
      refine pe_go (pc := 102) rfl (s_iinc (x := (q : Int)) (y := ((q + 1 : Nat) : Int)) rfl (by omega) (lv' := [(6, .int (iI ((q + 1 : Nat) : Int))), (7, .int (iI ((X.2.1 p) q))), (5, .int (iI (p : Int))), (0, .ref a), (1, .int (iI (k : Int))), (2, .int (iI x)), (3, .int (iI y)), (4, .int (iI h))]) rfl) ?_
      refine pe_go (pc := 105) rfl s_goto ?_
      refine pe_few (lv := [(6, .int (iI ((q + 1 : Nat) : Int))), (5, .int (iI (p : Int))), (0, .ref a), (1, .int (iI (k : Int))), (2, .int (iI x)), (3, .int (iI y)), (4, .int (iI h))]) rfl rfl (by intro q hq; simp only [List.mem_cons, List.not_mem_nil, or_false] at hq; rcases hq with rfl | rfl | rfl | rfl | rfl | rfl | rfl <;> rfl) ?_
      refine ih (q + 1) _ w (by omega) (Sh.In_lay1 hI hk1 hp (show q < 40 by omega)) (by rw [(X.lay1_1 k x y p q).1]; exact hk1) (show shAt w O Q a (X.lay1 k x y p q) by unfold Sh.lay1; rw [if_neg (fun z => z.1 c0)]; exact hSS) (fun w9 s9 o9 => K w9 s9 o9)
    · obtain ⟨sp, sq⟩ := hI.2.2.1 p q hp (by omega) c0
      have e1p := Sh.of_some sp
      have e1q := Sh.of_some sq
      obtain ⟨ip, -⟩ := hI.1 p _ _ _ hp e1p
      obtain ⟨iq, -⟩ := hI.1 q _ _ _ (by omega) e1q
      refine pe_go (pc := 35) rfl (s_iload rfl) ?_
      refine pe_go (pc := 37) rfl (s_iload rfl) ?_
      refine pe_go rfl (s_icmp_ge_f ⟨by omega, by omega⟩ ⟨by omega, by omega⟩ (by omega)) ?_
      refine pe_go (pc := 42) rfl (s_aload_n rfl) ?_
      refine pe_go (pc := 43) rfl (s_getf (v := .ref fa) h0 rfl) ?_
      refine pe_go (pc := 46) rfl (s_iload rfl) ?_
      refine pe_go (pc := 48) rfl (s_aald h4 (k := p) (by omega) (by omega) e1) ?_
      refine pe_go (pc := 49) rfl (s_iload rfl) ?_
      refine pe_go (pc := 51) rfl (s_iald (n := 40) (f := X.2.1 p) (v := (X.2.1 p) q) e3 (k := q) (by omega) (by omega) (by decide) rfl) ?_
      refine pe_go (pc := 52) rfl (s_istore (lv' := [(7, .int (iI ((X.2.1 p) q))), (6, .int (iI (q : Int))), (5, .int (iI (p : Int))), (0, .ref a), (1, .int (iI (k : Int))), (2, .int (iI x)), (3, .int (iI y)), (4, .int (iI h))]) rfl) ?_
      refine pe_go (pc := 54) rfl (s_iload rfl) ?_
      refine pe_go rfl (s_if_eq_f ⟨by omega, by omega⟩ c0) ?_
      refine pe_go (pc := 59) rfl (s_aload_n rfl) ?_
      refine pe_go (pc := 60) rfl (s_iload rfl) ?_
      refine pe_go (pc := 62) rfl (s_iload rfl) ?_
      refine pe_go (pc := 64) rfl (s_iload_n rfl) ?_
      refine pe_go (pc := 65) rfl (s_iload_n rfl) ?_
      refine pe_call rfl (s_invV rfl h0 rfl rfl) (w_between hSS hp (q := q) (by omega) e1p e1q ip iq hi) ?_
      by_cases b1 : btw2 (X.cx p) (X.cy p) (X.cx q) (X.cy q) x y
      · skip
        refine pe_go rfl (s_ifne_true (decide_eq_true b1)) ?_
        refine pe_go (pc := 75) rfl (s_aload_n rfl) ?_
        refine pe_go (pc := 76) rfl (s_iload rfl) ?_
        refine pe_go (pc := 78) rfl (s_iload rfl) ?_
        refine pe_go (pc := 80) rfl (s_iconst (z := 0) rfl) ?_
        refine pe_callE rfl (s_invV rfl h0 rfl rfl) (w_fixes hSS hp (q := q) (by omega) 0) ?_
        rintro _ w2 ⟨rfl, hs2, ho2⟩
        obtain ⟨f2, g2⟩ := sh_obj hs2
        refine pe_go (pc := 84) rfl (s_aload_n rfl) ?_
        refine pe_go (pc := 85) rfl (s_iload rfl) ?_
        refine pe_go (pc := 87) rfl (s_iload_n rfl) ?_
        refine pe_go (pc := 88) rfl (s_iload rfl) ?_
        refine pe_callE rfl (s_invV rfl g2 rfl rfl) (w_fixes hs2 hp hk (X.2.1 p q)) ?_
        rintro _ w3 ⟨rfl, hs3, ho3⟩
        obtain ⟨f3, g3⟩ := sh_obj hs3
        refine pe_go (pc := 93) rfl (s_aload_n rfl) ?_
        refine pe_go (pc := 94) rfl (s_iload rfl) ?_
        refine pe_go (pc := 96) rfl (s_iload_n rfl) ?_
        refine pe_go (pc := 97) rfl (s_iload rfl) ?_
        refine pe_callE rfl (s_invV rfl g3 rfl rfl) (w_fixes hs3 (p := q) (by omega) hk (X.2.1 p q)) ?_
        rintro _ w4 ⟨rfl, hs4, ho4⟩
        obtain ⟨f4, g4⟩ := sh_obj hs4
        refine pe_go (pc := 102) rfl (s_iinc (x := (q : Int)) (y := ((q + 1 : Nat) : Int)) rfl (by omega) (lv' := [(6, .int (iI ((q + 1 : Nat) : Int))), (7, .int (iI ((X.2.1 p) q))), (5, .int (iI (p : Int))), (0, .ref a), (1, .int (iI (k : Int))), (2, .int (iI x)), (3, .int (iI y)), (4, .int (iI h))]) rfl) ?_
        refine pe_go (pc := 105) rfl s_goto ?_
        refine pe_few (lv := [(6, .int (iI ((q + 1 : Nat) : Int))), (5, .int (iI (p : Int))), (0, .ref a), (1, .int (iI (k : Int))), (2, .int (iI x)), (3, .int (iI y)), (4, .int (iI h))]) rfl rfl (by intro q hq; simp only [List.mem_cons, List.not_mem_nil, or_false] at hq; rcases hq with rfl | rfl | rfl | rfl | rfl | rfl | rfl <;> rfl) ?_
        refine ih (q + 1) _ w4 (by omega) (Sh.In_lay1 hI hk1 hp (show q < 40 by omega)) (by rw [(X.lay1_1 k x y p q).1]; exact hk1) (show shAt w4 O Q a (X.lay1 k x y p q) by unfold Sh.lay1; rw [if_pos ⟨c0, by assumption⟩]; exact hs4) (fun w9 s9 o9 => K w9 s9 (own_trans (own_trans (own_trans ho2 ho3) ho4) o9))
      · skip
        refine pe_go rfl (s_ifne_false (decide_eq_false b1)) ?_
        refine pe_go (pc := 72) rfl s_goto ?_
        refine pe_go (pc := 102) rfl (s_iinc (x := (q : Int)) (y := ((q + 1 : Nat) : Int)) rfl (by omega) (lv' := [(6, .int (iI ((q + 1 : Nat) : Int))), (7, .int (iI ((X.2.1 p) q))), (5, .int (iI (p : Int))), (0, .ref a), (1, .int (iI (k : Int))), (2, .int (iI x)), (3, .int (iI y)), (4, .int (iI h))]) rfl) ?_
        refine pe_go (pc := 105) rfl s_goto ?_
        refine pe_few (lv := [(6, .int (iI ((q + 1 : Nat) : Int))), (5, .int (iI (p : Int))), (0, .ref a), (1, .int (iI (k : Int))), (2, .int (iI x)), (3, .int (iI y)), (4, .int (iI h))]) rfl rfl (by intro q hq; simp only [List.mem_cons, List.not_mem_nil, or_false] at hq; rcases hq with rfl | rfl | rfl | rfl | rfl | rfl | rfl <;> rfl) ?_
        refine ih (q + 1) _ w (by omega) (Sh.In_lay1 hI hk1 hp (show q < 40 by omega)) (by rw [(X.lay1_1 k x y p q).1]; exact hk1) (show shAt w O Q a (X.lay1 k x y p q) by unfold Sh.lay1; rw [if_neg (fun z => absurd z.2 (by assumption))]; exact hSS) (fun w9 s9 o9 => K w9 s9 o9)
theorem l_layI {O Q : Nat → Prop} {a k : Nat} {x y h : Int} (hk : k < 40) (hi : inSq x y) {Φ : Option Value → pW → Prop} : ∀ (n p : Nat) (X : Sh) (w : pW), p + n = 40 → X.In → (X.1 k).isSome = true → shAt w O Q a X → (∀ w' : pW, shAt w' O Q a (Sh.layI k x y n p X) → own O w w' → Φ none w') → qE 129 (25, [(5, .int (iI (p : Int))), (0, .ref a), (1, .int (iI (k : Int))), (2, .int (iI x)), (3, .int (iI y)), (4, .int (iI h))], [], w) Φ := by
  intro n
  induction n with
  | zero =>
    intro p X w hp hI hk1 hS K
    refine pe_go (pc := 25) rfl (s_iload rfl) ?_
    refine pe_go (pc := 27) rfl (s_bipush (z := 40) rfl) ?_
    refine pe_go rfl (s_icmp_ge_t ⟨by omega, by omega⟩ ⟨by decide, by decide⟩ (by omega)) ?_
    exact pe_ret rfl s_retv (K w hS (own_refl O w))
  | succ n ih =>
    intro p X w hp hI hk1 hS K
    obtain ⟨j1, j2, j3⟩ := Sh.layJ_ok (k := k) (x := x) (y := y) (show p < 40 by omega) p 0 X (by omega) hI hk1
    refine pe_go (pc := 25) rfl (s_iload rfl) ?_
    refine pe_go (pc := 27) rfl (s_bipush (z := 40) rfl) ?_
    refine pe_go rfl (s_icmp_ge_f ⟨by omega, by omega⟩ ⟨by decide, by decide⟩ (by omega)) ?_
    refine pe_go (pc := 32) rfl (s_iconst (z := 0) rfl) ?_
    refine pe_go (pc := 33) rfl (s_istore (lv' := [(6, .int (iI 0)), (5, .int (iI (p : Int))), (0, .ref a), (1, .int (iI (k : Int))), (2, .int (iI x)), (3, .int (iI y)), (4, .int (iI h))]) rfl) ?_
    refine pe_few (lv := [(6, .int (iI ((0 : Nat) : Int))), (5, .int (iI (p : Int))), (0, .ref a), (1, .int (iI (k : Int))), (2, .int (iI x)), (3, .int (iI y)), (4, .int (iI h))]) rfl rfl (by intro q hq; simp only [List.mem_cons, List.not_mem_nil, or_false] at hq; rcases hq with rfl | rfl | rfl | rfl | rfl | rfl | rfl <;> rfl) ?_
    refine l_layJ hk hi (show p < 40 by omega) p 0 X w (by omega) hI hk1 hS (fun w' s' o' => ?_)
    refine pe_go (pc := 108) rfl (s_iinc (x := (p : Int)) (y := ((p + 1 : Nat) : Int)) rfl (by omega) (lv' := [(5, .int (iI ((p + 1 : Nat) : Int))), (6, .int (iI (p : Int))), (0, .ref a), (1, .int (iI (k : Int))), (2, .int (iI x)), (3, .int (iI y)), (4, .int (iI h))]) rfl) ?_
    refine pe_go (pc := 111) rfl s_goto ?_
    refine pe_few (lv := [(5, .int (iI ((p + 1 : Nat) : Int))), (0, .ref a), (1, .int (iI (k : Int))), (2, .int (iI x)), (3, .int (iI y)), (4, .int (iI h))]) rfl rfl (by intro q hq; simp only [List.mem_cons, List.not_mem_nil, or_false] at hq; rcases hq with rfl | rfl | rfl | rfl | rfl | rfl <;> rfl) ?_
    exact ih (p + 1) _ w' (by omega) j1 (by rw [j2]; exact hk1) s' (fun w9 s9 o9 => K w9 s9 (own_trans o' o9))
theorem Sh.In_uP {X : Sh} (h : X.In) {k : Nat} {x y z : Int} (hi : inSq x y) (h1 : -9999 ≤ z) (h2 : z ≤ 9999) : (X.uP k (some (x, y, z))).In := by
  obtain ⟨k1, k2, k3, k4⟩ := h
  refine ⟨fun i x' y' z' hi9 hX => ?_, k2, fun i j hi9 hj9 hn => ?_, k4⟩
  · have hX' : (if i = k then some (x, y, z) else X.1 i) = some (x', y', z') := hX
    by_cases c : i = k
    · rw [if_pos c] at hX'; cases hX'; exact ⟨hi, h1, h2⟩
    · rw [if_neg c] at hX'; exact k1 i x' y' z' hi9 hX'
  · have := k3 i j hi9 hj9 hn
    show (if i = k then some (x, y, z) else X.1 i).isSome = true ∧ (if j = k then some (x, y, z) else X.1 j).isSome = true
    constructor
    · split
      · rfl
      · exact this.1
    · split
      · rfl
      · exact this.2
theorem w_lays {O Q : Nat → Prop} {a k : Nat} {x y h : Int} {X : Sh} {w : pW} (hk : k < 40) (hi : inSq x y) (hh : -9999 ≤ h ∧ h ≤ 9999) (hI : X.In) (hS : shAt w O Q a X) (hQ : Q w.length) : qC 129 [.ref a, .int (iI (k : Int)), .int (iI x), .int (iI y), .int (iI h)] w (fun r w' => r = none ∧ shAt w' O Q a (X.lays k x y h) ∧ (X.lays k x y h).In ∧ agr O w w' ∧ gro 1 3 w w') := by
  obtain ⟨pa, fa, ha, pf, gf, hf, ff, hP⟩ := hS
  have hP0 := sh_app hP [cR 3 (row3 x y h)]
  have hr : rowI (w ++ [cR 3 (row3 x y h)]) w.length 3 (row3 x y h) := app_new
  have hP1 := sh_pt hP0 (p := k) hr hQ
  have hI1 := Sh.In_uP hI (k := k) hi hh.1 hh.2
  have hk1 : ((X.uP k (some (x, y, h))).1 k).isSome = true := by show (if k = k then some (x, y, h) else X.1 k).isSome = true; rw [if_pos rfl]; rfl
  obtain ⟨hb, h0, h1, -⟩ := hP
  obtain ⟨-, k0, k1, -⟩ := hP0
  have agr1 : agr O w ((w ++ [cR 3 (row3 x y h)]).set pa (.inl (3, 40, rfs (va_up pf k (some w.length))))) := agr_trans agr_app (agr_set hb.2.1) (fun _ z => z)
  have gro1 : gro 1 3 w ((w ++ [cR 3 (row3 x y h)]).set pa (.inl (3, 40, rfs (va_up pf k (some w.length))))) := gro_trans (gro_app w (cR 3 (row3 x y h))) (gro_set (c' := .inl (3, 40, rfs (va_up pf k (some w.length)))) k1 rfl)
  have n0 : (w ++ [cR 3 (fun _ => 0)])[w.length]? = some (cR 3 (fun _ => 0)) := app_new
  have n1 : (w ++ [cR 3 (uZ (fun _ => 0) 0 x)])[w.length]? = some (cR 3 (uZ (fun _ => 0) 0 x)) := app_new
  have n2 : (w ++ [cR 3 (uZ (uZ (fun _ => 0) 0 x) 1 y)])[w.length]? = some (cR 3 (uZ (uZ (fun _ => 0) 0 x) 1 y)) := app_new
  have sl : ∀ c d : pCell, (w ++ [c]).set w.length d = w ++ [d] := fun c d => by rw [List.set_append_right _ _ (Nat.le_refl _), Nat.sub_self]; rfl
  refine pc_run (lv := [(0, .ref a), (1, .int (iI (k : Int))), (2, .int (iI x)), (3, .int (iI y)), (4, .int (iI h))]) rfl ?_
  refine pe_go (pc := 0) rfl (s_aload_n rfl) ?_
  refine pe_go (pc := 1) rfl (s_getf (v := .ref pa) h0 rfl) ?_
  refine pe_go (pc := 4) rfl (s_iload_n rfl) ?_
  refine pe_go (pc := 5) rfl (s_iconst (z := 3) rfl) ?_
  refine pe_go (pc := 6) rfl (s_newI (n := 3) rfl (by decide)) ?_
  refine pe_go (pc := 8) rfl (s_dup rfl) ?_
  refine pe_go (pc := 9) rfl (s_iconst (z := 0) rfl) ?_
  refine pe_go (pc := 10) rfl (s_iload_n rfl) ?_
  refine pe_go (pc := 11) rfl (s_iast (f := fun _ => 0) (w' := w ++ [cR 3 (uZ (fun _ => 0) 0 x)]) n0 (k := 0) rfl (by decide) (by decide) (sl _ _)) ?_
  refine pe_go (pc := 12) rfl (s_dup rfl) ?_
  refine pe_go (pc := 13) rfl (s_iconst (z := 1) rfl) ?_
  refine pe_go (pc := 14) rfl (s_iload_n rfl) ?_
  refine pe_go (pc := 15) rfl (s_iast (f := uZ (fun _ => 0) 0 x) (w' := w ++ [cR 3 (uZ (uZ (fun _ => 0) 0 x) 1 y)]) n1 (k := 1) rfl (by decide) (by decide) (sl _ _)) ?_
  refine pe_go (pc := 16) rfl (s_dup rfl) ?_
  refine pe_go (pc := 17) rfl (s_iconst (z := 2) rfl) ?_
  refine pe_go (pc := 18) rfl (s_iload rfl) ?_
  refine pe_go (pc := 20) rfl (s_iast (f := uZ (uZ (fun _ => 0) 0 x) 1 y) (w' := w ++ [cR 3 (row3 x y h)]) n2 (k := 2) rfl (by decide) (by decide) (sl _ _)) ?_
  refine pe_go (pc := 21) rfl (s_aast (k := k) k1 (holds_row hr) rfl ⟨hk, by decide⟩ rfl) ?_
  refine pe_go (pc := 22) rfl (s_iconst (z := 0) rfl) ?_
  refine pe_go (pc := 23) rfl (s_istore (lv' := [(5, .int (iI 0)), (0, .ref a), (1, .int (iI (k : Int))), (2, .int (iI x)), (3, .int (iI y)), (4, .int (iI h))]) rfl) ?_
  refine pe_few (lv := [(5, .int (iI ((0 : Nat) : Int))), (0, .ref a), (1, .int (iI (k : Int))), (2, .int (iI x)), (3, .int (iI y)), (4, .int (iI h))]) rfl rfl (by intro q hq; simp only [List.mem_cons, List.not_mem_nil, or_false] at hq; rcases hq with rfl | rfl | rfl | rfl | rfl | rfl <;> rfl) ?_
  refine l_layI hk hi 40 0 (X.uP k (some (x, y, h))) _ (by omega) hI1 hk1 ⟨pa, fa, ha, va_up pf k (some w.length), gf, hf, ff, hP1⟩ (fun w' s' o' => ⟨rfl, s', (Sh.layI_ok 40 0 _ (by omega) hI1 hk1).1, agr_trans agr1 o'.1 (fun _ z => z), gro_trans gro1 o'.2⟩)
theorem Sh.frF_ge (X : Sh) : ∀ (n k : Nat), (X.frF n k = -1 ∧ ∀ q : Nat, k ≤ q → q < k + n → (X.1 q).isSome = true) ∨ ∃ q : Nat, k ≤ q ∧ q < k + n ∧ X.frF n k = (q : Int) ∧ X.1 q = none ∧ ∀ r : Nat, k ≤ r → r < q → (X.1 r).isSome = true := by
  intro n
  induction n with
  | zero => intro k; exact Or.inl ⟨rfl, fun q h1 h2 => by omega⟩
  | succ n ih =>
    intro k
    rcases e : X.1 k with _ | t
    · exact Or.inr ⟨k, Nat.le_refl _, by omega, Sh.frF_n e, e, fun r h1 h2 => by omega⟩
    · rw [Sh.frF_s e]
      rcases ih (k + 1) with ⟨h1, h2⟩ | ⟨q, h1, h2, h3, h4, h5⟩
      · refine Or.inl ⟨h1, fun q a b => ?_⟩
        by_cases c : q = k
        · rw [c, e]; rfl
        · exact h2 q (by omega) (by omega)
      · refine Or.inr ⟨q, by omega, by omega, h3, h4, fun r a b => ?_⟩
        by_cases c : r = k
        · rw [c, e]; rfl
        · exact h5 r (by omega) b
theorem Sh.free_ok (X : Sh) : (X.free = -1 ∧ ∀ q : Nat, 4 ≤ q → q < 40 → (X.1 q).isSome = true) ∨ ∃ q : Nat, 4 ≤ q ∧ q < 40 ∧ X.free = (q : Int) ∧ X.1 q = none ∧ ∀ r : Nat, 4 ≤ r → r < q → (X.1 r).isSome = true := by
  rcases X.frF_ge 36 4 with ⟨h1, h2⟩ | ⟨q, h1, h2, h3, h4, h5⟩
  · exact Or.inl ⟨h1, fun q a b => h2 q a (by omega)⟩
  · exact Or.inr ⟨q, h1, by omega, h3, h4, h5⟩
theorem Sh.atF_ge (X : Sh) (x y : Int) : ∀ (n k : Nat), (X.atF x y n k = -1 ∧ ∀ q : Nat, k ≤ q → q < k + n → ¬ X.isAt q x y) ∨ ∃ q : Nat, k ≤ q ∧ q < k + n ∧ X.atF x y n k = (q : Int) ∧ X.isAt q x y := by
  intro n
  induction n with
  | zero => intro k; exact Or.inl ⟨rfl, fun q h1 h2 => by omega⟩
  | succ n ih =>
    intro k
    by_cases e : X.isAt k x y
    · exact Or.inr ⟨k, Nat.le_refl _, by omega, Sh.atF_y e, e⟩
    · rw [Sh.atF_n e]
      rcases ih (k + 1) with ⟨h1, h2⟩ | ⟨q, h1, h2, h3, h4⟩
      · refine Or.inl ⟨h1, fun q a b => ?_⟩
        by_cases c : q = k
        · rw [c]; exact e
        · exact h2 q (by omega) (by omega)
      · exact Or.inr ⟨q, by omega, by omega, h3, h4⟩
theorem Sh.at_ok (X : Sh) (x y : Int) : (X.at x y = -1 ∧ ∀ q : Nat, q < 40 → ¬ X.isAt q x y) ∨ ∃ q : Nat, q < 40 ∧ X.at x y = (q : Int) ∧ X.isAt q x y := by
  rcases X.atF_ge x y 40 0 with ⟨h1, h2⟩ | ⟨q, h1, h2, h3, h4⟩
  · exact Or.inl ⟨h1, fun q a => h2 q (by omega) (by omega)⟩
  · exact Or.inr ⟨q, by omega, h3, h4⟩
theorem Sh.at_sm (X : Sh) (x y : Int) : sm (X.at x y) := by
  rcases X.at_ok x y with ⟨h, -⟩ | ⟨q, h1, h2, -⟩
  · rw [h]; exact ⟨by decide, by decide⟩
  · rw [h2]; exact ⟨by omega, by omega⟩
theorem Sh.free_sm (X : Sh) : sm X.free := by
  rcases X.free_ok with ⟨h, -⟩ | ⟨q, -, h1, h2, -⟩
  · rw [h]; exact ⟨by decide, by decide⟩
  · rw [h2]; exact ⟨by omega, by omega⟩
theorem w_tells {O Q : Nat → Prop} {a : Nat} {x y : Int} {X : Sh} {w : pW} (hi : inSq x y) (hI : X.In) (hS : shAt w O Q a X) (hQ : Q w.length) : qC 130 [.ref a, .int (iI x), .int (iI y)] w (fun r w' => ((0 ≤ X.free ∧ X.at x y < 0) ∧ ∃ k : Nat, k < 40 ∧ X.free = (k : Int) ∧ r = some (.int (iI (k : Int))) ∧ shAt w' O Q a (X.lays k x y 0) ∧ (X.lays k x y 0).In ∧ agr O w w' ∧ gro 1 3 w w') ∨ (¬ (0 ≤ X.free ∧ X.at x y < 0) ∧ r = some (.int (iI (-1))) ∧ w' = w)) := by
  obtain ⟨fo, ho⟩ := sh_obj hS
  refine pc_run (lv := [(0, .ref a), (1, .int (iI x)), (2, .int (iI y))]) rfl ?_
  refine pe_go (pc := 0) rfl (s_aload_n rfl) ?_
  refine pe_call rfl (s_invV rfl ho rfl rfl) (w_free hS hI.1) ?_
  refine pe_go (pc := 4) rfl (s_istore_n (lv' := [(3, .int (iI X.free)), (0, .ref a), (1, .int (iI x)), (2, .int (iI y))]) rfl) ?_
  refine pe_go (pc := 5) rfl (s_iload_n rfl) ?_
  by_cases c1 : X.free < 0
  · skip
    refine pe_go rfl (s_if_lt_t X.free_sm c1) ?_
    refine pe_go (pc := 18) rfl (s_iconst (z := -1) rfl) ?_
    exact pe_ret rfl s_reti (Or.inr ⟨by omega, rfl, rfl⟩)
  · skip
    refine pe_go rfl (s_if_lt_f X.free_sm c1) ?_
    refine pe_go (pc := 9) rfl (s_aload_n rfl) ?_
    refine pe_go (pc := 10) rfl (s_iload_n rfl) ?_
    refine pe_go (pc := 11) rfl (s_iload_n rfl) ?_
    refine pe_call rfl (s_invV rfl ho rfl rfl) (w_at hS hI.1 (x := x) (y := y) ⟨by omega, by omega⟩ ⟨by omega, by omega⟩) ?_
    by_cases c2 : (X.at x y) < 0
    · skip
      refine pe_go rfl (s_if_lt_t (X.at_sm x y) c2) ?_
      refine pe_go (pc := 20) rfl (s_aload_n rfl) ?_
      refine pe_go (pc := 21) rfl (s_iload_n rfl) ?_
      refine pe_go (pc := 22) rfl (s_iload_n rfl) ?_
      refine pe_go (pc := 23) rfl (s_iload_n rfl) ?_
      refine pe_go (pc := 24) rfl (s_iconst (z := 0) rfl) ?_
      obtain ⟨k9, -, hk9, ek9, -⟩ : ∃ q : Nat, 4 ≤ q ∧ q < 40 ∧ X.free = (q : Int) ∧ X.1 q = none := by
        rcases X.free_ok with ⟨z, -⟩ | ⟨q, z1, z2, z3, z4, -⟩
        · omega
        · exact ⟨q, z1, z2, z3, z4⟩
      rw [ek9]
      refine pe_callE rfl (s_invV rfl ho rfl rfl) (w_lays (k := k9) (x := x) (y := y) (h := 0) hk9 hi ⟨by decide, by decide⟩ hI hS hQ) ?_
      rintro _ w3 ⟨rfl, hs3, hi3, ha3, hg3⟩
      refine pe_go (pc := 28) rfl (s_iload_n rfl) ?_
      exact pe_ret rfl s_reti (Or.inl ⟨by omega, k9, hk9, rfl, rfl, hs3, hi3, ha3, hg3⟩)
    · skip
      refine pe_go rfl (s_if_lt_f (X.at_sm x y) c2) ?_
      refine pe_go (pc := 18) rfl (s_iconst (z := -1) rfl) ?_
      exact pe_ret rfl s_reti (Or.inr ⟨by omega, rfl, rfl⟩)
