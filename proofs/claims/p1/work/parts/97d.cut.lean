/-! CUT: what the two count is the same. By hand. -/
theorem cuF_e {B : Nat → Bool} : ∀ {m q n : Nat}, cuF B m q n = n + ((List.range' q m).filter B).length := by
  intro m
  induction m with
  | zero => intro q n; rfl
  | succ m ih =>
    intro q n
    show cuF B m (q + 1) (bif B q then n + 1 else n) = _
    rw [ih, List.range'_succ, List.filter_cons]
    cases B q
    · rfl
    · show n + 1 + _ = n + (_ + 1)
      omega
def prs (p m : Nat) : List (Nat × Nat) := (List.range' p m).flatMap (fun p => (List.range' 0 p).map (fun q => (p, q)))
theorem ctF_e {B : Nat → Nat → Bool} : ∀ {m p n : Nat}, ctF B m p n = n + ((prs p m).filter (fun e => B e.1 e.2)).length := by
  intro m
  induction m with
  | zero => intro p n; rfl
  | succ m ih =>
    intro p n
    show ctF B m (p + 1) (cuF (B p) p 0 n) = _
    have e : prs p (m + 1) = (List.range' 0 p).map (fun q => (p, q)) ++ prs (p + 1) m := by
      unfold prs
      rw [List.range'_succ, List.flatMap_cons]
    rw [ih, cuF_e, e, List.filter_append, List.length_append, List.filter_map, List.length_map]
    show _ = n + (((List.range' 0 p).filter (B p)).length + _)
    omega
theorem sumB_e {α : Type} {C : α → Bool} : ∀ {l : List α}, (l.filter C).length = sumB (l.map C) := by
  intro l
  induction l with
  | nil => rfl
  | cons a l ih =>
    rw [List.filter_cons, List.map_cons]
    cases e : C a with
    | true =>
      rw [sumB_t rfl, ← ih]
      rfl
    | false =>
      rw [sumB_f rfl, ← ih]
      rfl
theorem prs_E : (prs 0 40).filter (fun e => edgF sLf e.1 e.2) = [(1, 0), (2, 0), (2, 1), (3, 0), (3, 2)] := by decide +kernel
theorem ctF_cut {x y tx ty : Int32} : ctF (crB x y tx ty) 40 0 0 = sumB [cutR 1 0 x y tx ty, cutR 2 0 x y tx ty, cutR 2 1 x y tx ty, cutR 3 0 x y tx ty, cutR 3 2 x y tx ty] := by
  rw [ctF_e, Nat.zero_add]
  have e : (prs 0 40).filter (fun e => crB x y tx ty e.1 e.2) = ((prs 0 40).filter (fun e => edgF sLf e.1 e.2)).filter (fun e => cutR e.1 e.2 x y tx ty) := by
    rw [List.filter_filter]
    congr 1
    funext e
    unfold crB
    rw [Bool.and_comm]
  rw [e, prs_E, sumB_e]
  rfl
theorem sum5 : ∀ a b c d e : Bool, sumB [a, b, d, c, e] = sumB [a, b, c, d, e] := by decide
-- in whole numbers
def oppI (u v : Int) : Bool := decide ((u < 0 ∧ 0 < v) ∨ (0 < u ∧ v < 0))
theorem opp_e {u v : Int} (hu : -100000000 ≤ u ∧ u ≤ 100000000) (hv : -100000000 ≤ v ∧ v ≤ 100000000) : oppB (Int32.ofInt u) (Int32.ofInt v) = oppI u v := by
  have e1 : (0 ≤ Int32.ofInt u) ↔ 0 ≤ u := by
    rw [Int32.le_iff_toInt_le, i32_small (by omega) (by omega)]
    exact Iff.rfl
  have e2 : (Int32.ofInt u ≤ 0) ↔ u ≤ 0 := by
    rw [Int32.le_iff_toInt_le, i32_small (by omega) (by omega)]
    exact Iff.rfl
  have e3 : (0 < Int32.ofInt v) ↔ 0 < v := by
    rw [Int32.lt_iff_toInt_lt, i32_small (by omega) (by omega)]
    exact Iff.rfl
  have e4 : (0 ≤ Int32.ofInt v) ↔ 0 ≤ v := by
    rw [Int32.le_iff_toInt_le, i32_small (by omega) (by omega)]
    exact Iff.rfl
  apply Bool.eq_iff_iff.mpr
  unfold oppB oppI
  simp only [Bool.or_eq_true, Bool.and_eq_true, Bool.not_eq_true', decide_eq_true_eq, decide_eq_false_iff_not, e1, e2, e3, e4]
  omega
theorem ap_e {u v : Int} (hu : -100000000 ≤ u ∧ u ≤ 100000000) (hv : -100000000 ≤ v ∧ v ≤ 100000000) : apB (Int32.ofInt u) (Int32.ofInt v) = oppI u v := by
  have e1 : (0 ≤ Int32.ofInt u) ↔ 0 ≤ u := by
    rw [Int32.le_iff_toInt_le, i32_small (by omega) (by omega)]
    exact Iff.rfl
  have e2 : (Int32.ofInt u ≤ 0) ↔ u ≤ 0 := by
    rw [Int32.le_iff_toInt_le, i32_small (by omega) (by omega)]
    exact Iff.rfl
  have e3 : (Int32.ofInt v < 0) ↔ v < 0 := by
    rw [Int32.lt_iff_toInt_lt, i32_small (by omega) (by omega)]
    exact Iff.rfl
  have e4 : (Int32.ofInt v ≤ 0) ↔ v ≤ 0 := by
    rw [Int32.le_iff_toInt_le, i32_small (by omega) (by omega)]
    exact Iff.rfl
  apply Bool.eq_iff_iff.mpr
  unfold apB oppI
  simp only [Bool.or_eq_true, Bool.and_eq_true, Bool.not_eq_true', decide_eq_true_eq, decide_eq_false_iff_not, e1, e2, e3, e4]
  omega
def cx (k : Nat) : Int := match k with
  | 0 => -1000
  | 1 => 1000
  | 2 => 1000
  | _ => -1000
def cy (k : Nat) : Int := match k with
  | 0 => -1000
  | 1 => -1000
  | _ => 1000
theorem cxy_b (k : Nat) : (-1000 ≤ cx k ∧ cx k ≤ 1000) ∧ (-1000 ≤ cy k ∧ cy k ≤ 1000) := by
  match k with
  | 0 => decide
  | 1 => decide
  | 2 => decide
  | k + 3 => exact ⟨by show (-1000 : Int) ≤ -1000 ∧ (-1000 : Int) ≤ 1000; decide, by show (-1000 : Int) ≤ 1000 ∧ (1000 : Int) ≤ 1000; decide⟩
theorem cxy_s (k : Nat) (hk : k < 4) : (sXs k = Int32.ofInt (cx k) ∧ sYs k = Int32.ofInt (cy k)) ∧ (xF sA k = Int32.ofInt (cx k) ∧ yF sA k = Int32.ofInt (cy k)) := by
  match k, hk with
  | 0, _ => exact ⟨⟨by decide +kernel, by decide +kernel⟩, ⟨by decide +kernel, by decide +kernel⟩⟩
  | 1, _ => exact ⟨⟨by decide +kernel, by decide +kernel⟩, ⟨by decide +kernel, by decide +kernel⟩⟩
  | 2, _ => exact ⟨⟨by decide +kernel, by decide +kernel⟩, ⟨by decide +kernel, by decide +kernel⟩⟩
  | 3, _ => exact ⟨⟨by decide +kernel, by decide +kernel⟩, ⟨by decide +kernel, by decide +kernel⟩⟩
def sdI (a b : Nat) (X Y : Int) : Int := (cx b - cx a) * (Y - cy a) - (cy b - cy a) * (X - cx a)
def tnI (X Y TX TY : Int) (c : Nat) : Int := (TX - X) * (cy c - Y) - (TY - Y) * (cx c - X)
theorem sdI_b {a b : Nat} {X Y : Int} (hX : -1000 ≤ X ∧ X ≤ 1000) (hY : -1000 ≤ Y ∧ Y ≤ 1000) : -100000000 ≤ sdI a b X Y ∧ sdI a b X Y ≤ 100000000 := by
  have ha := cxy_b a
  have hb := cxy_b b
  unfold sdI
  have h1 := mul_b (a := cx b - cx a) (b := Y - cy a) (A := 2000) (B := 2000) (by omega) (by omega) (by omega) (by omega)
  have h2 := mul_b (a := cy b - cy a) (b := X - cx a) (A := 2000) (B := 2000) (by omega) (by omega) (by omega) (by omega)
  omega
theorem tnI_b {c : Nat} {X Y TX TY : Int} (hX : -1000 ≤ X ∧ X ≤ 1000) (hY : -1000 ≤ Y ∧ Y ≤ 1000) (hTX : -1000 ≤ TX ∧ TX ≤ 1000) (hTY : -1000 ≤ TY ∧ TY ≤ 1000) : -100000000 ≤ tnI X Y TX TY c ∧ tnI X Y TX TY c ≤ 100000000 := by
  have hc := cxy_b c
  unfold tnI
  have h1 := mul_b (a := TX - X) (b := cy c - Y) (A := 2000) (B := 2000) (by omega) (by omega) (by omega) (by omega)
  have h2 := mul_b (a := TY - Y) (b := cx c - X) (A := 2000) (B := 2000) (by omega) (by omega) (by omega) (by omega)
  omega
theorem sdI_n {a b : Nat} {X Y : Int} : sdI b a X Y = - sdI a b X Y := by
  unfold sdI
  grind
theorem sqB_b {x y : Int32} (h : sqB x y = true) : (-1000 ≤ x.toInt ∧ x.toInt ≤ 1000) ∧ (-1000 ≤ y.toInt ∧ y.toInt ≤ 1000) := by
  unfold sqB at h
  simp only [Bool.and_eq_true, Bool.not_eq_true', decide_eq_false_iff_not, Int32.lt_iff_toInt_lt] at h
  have e1 : (nI 4294966296).toInt = -1000 := by decide
  have e2 : (nI 1000).toInt = 1000 := by decide
  rw [e1, e2] at h
  omega
theorem cut_eq {a b : Nat} {x y tx ty : Int32} (ha : a < 4) (hb : b < 4) (h1 : sqB x y = true) (h2 : sqB tx ty = true) : cutR b a x y tx ty = cutC sXs sYs a b x y tx ty := by
  obtain ⟨bx, b_y⟩ := sqB_b h1
  obtain ⟨btx, bty⟩ := sqB_b h2
  obtain ⟨⟨xa, ya⟩, xa', ya'⟩ := cxy_s a ha
  obtain ⟨⟨xb, yb⟩, xb', yb'⟩ := cxy_s b hb
  have X0 : x = Int32.ofInt x.toInt := (Int32.ofInt_toInt _).symm
  have Y0 : y = Int32.ofInt y.toInt := (Int32.ofInt_toInt _).symm
  have TX0 : tx = Int32.ofInt tx.toInt := (Int32.ofInt_toInt _).symm
  have TY0 : ty = Int32.ofInt ty.toInt := (Int32.ofInt_toInt _).symm
  generalize x.toInt = X at *
  generalize y.toInt = Y at *
  generalize tx.toInt = TX at *
  generalize ty.toInt = TY at *
  subst X0 Y0 TX0 TY0
  have s1 (X Y : Int) : sdF sXs sYs a b (Int32.ofInt X) (Int32.ofInt Y) = Int32.ofInt (sdI a b X Y) := by
    unfold sdF sdI
    rw [xa, ya, xb, yb]
    simp only [Int32.ofInt_sub, Int32.ofInt_mul]
  have s2 (X Y : Int) : sideF sA b a (Int32.ofInt X) (Int32.ofInt Y) = Int32.ofInt (sdI b a X Y) := by
    unfold sideF sdI
    rw [xa', ya', xb', yb']
    simp only [Int32.ofInt_sub, Int32.ofInt_mul]
  have t1 : trnC (Int32.ofInt X) (Int32.ofInt Y) (Int32.ofInt TX) (Int32.ofInt TY) (sXs a) (sYs a) = Int32.ofInt (tnI X Y TX TY a) := by
    unfold trnC tnI
    rw [xa, ya]
    simp only [Int32.ofInt_sub, Int32.ofInt_mul]
  have t2 : trnC (Int32.ofInt X) (Int32.ofInt Y) (Int32.ofInt TX) (Int32.ofInt TY) (sXs b) (sYs b) = Int32.ofInt (tnI X Y TX TY b) := by
    unfold trnC tnI
    rw [xb, yb]
    simp only [Int32.ofInt_sub, Int32.ofInt_mul]
  have u1 : onR a (Int32.ofInt X) (Int32.ofInt Y) (Int32.ofInt TX) (Int32.ofInt TY) = Int32.ofInt (tnI X Y TX TY a) := by
    unfold onR tnI
    rw [xa', ya']
    simp only [Int32.ofInt_sub, Int32.ofInt_mul]
  have u2 : onR b (Int32.ofInt X) (Int32.ofInt Y) (Int32.ofInt TX) (Int32.ofInt TY) = Int32.ofInt (tnI X Y TX TY b) := by
    unfold onR tnI
    rw [xb', yb']
    simp only [Int32.ofInt_sub, Int32.ofInt_mul]
  unfold cutR cutC
  rw [s1, s1, s2, s2, t1, t2, u1, u2, ap_e (tnI_b bx b_y btx bty) (tnI_b bx b_y btx bty), ap_e (sdI_b bx b_y) (sdI_b btx bty), opp_e (sdI_b bx b_y) (sdI_b btx bty), opp_e (tnI_b bx b_y btx bty) (tnI_b bx b_y btx bty), sdI_n (a := a) (b := b) (X := X), sdI_n (a := a) (b := b) (X := TX), Bool.and_comm]
  congr 1
  · exact decide_eq_decide.mpr (by omega)
  · exact decide_eq_decide.mpr (by omega)
theorem cut_same {x y tx ty : Int32} : cutW x y tx ty = cutV x y tx ty := by
  unfold cutW cutV
  cases h1 : sqB x y with
  | false => simp only [Bool.false_and, cond_false]
  | true =>
    cases h2 : sqB tx ty with
    | false => simp only [Bool.and_false, cond_false]
    | true =>
      rw [ctF_cut, cut_eq (a := 0) (b := 1) (by decide) (by decide) h1 h2, cut_eq (a := 0) (b := 2) (by decide) (by decide) h1 h2, cut_eq (a := 1) (b := 2) (by decide) (by decide) h1 h2, cut_eq (a := 0) (b := 3) (by decide) (by decide) h1 h2, cut_eq (a := 2) (b := 3) (by decide) (by decide) h1 h2, sum5]
def W0c : pW := cM sXs sYs (fun _ => 0) sFx (fun _ => 0) (fun _ => 0) 15 0 313 sAp sOw sCo sEn sNe (fun _ => 0) 2 (nI 5) sLi (fun _ => 0) (fun _ => 0) 0 (w0e.drop 18)
theorem W0c_e : W0c = w0e := rfl
theorem o_43 (a : Nat → Int32) : lOweK 57 w0e 43 a := by
  show lOweI 57 w0e 150 309 [.int (a 1), .int (a 2), .int (a 3), .int (a 4)]
  obtain ⟨r1, w1, ⟨rfl, rfl⟩, h1⟩ := m_cut (hs := fun _ => 0) (fx := sFx) (hx := fun _ => 0) (hy := fun _ => 0) (th := 15) (hn := 0) (g := 313) (ap := sAp) (ow := sOw) (co := sCo) (ne := sNe) (rd := fun _ => 0) (tn := 2) (li := sLi) (wa := fun _ => 0) (qu := fun _ => 0) (qn := 0) (Q := w0e.drop 18) (x := a 1) (y := a 2) (tx := a 3) (ty := a 4)
  obtain ⟨r2, w2, ⟨rfl, rfl⟩, h2⟩ := r_cut (x := a 1) (y := a 2) (tx := a 3) (ty := a 4)
  rw [cut_same] at h2
  have h1 : pRun 150 [.ref 0, .int (a 1), .int (a 2), .int (a 3), .int (a 4)] W0c (some (.int (cutV (a 1) (a 2) (a 3) (a 4)))) W0c := h1
  rw [W0c_e] at h1
  have z : zOK w0e = true := by decide +kernel
  obtain ⟨z1, z2⟩ := zOK_ok z
  exact ⟨_, w0e, w0e, h1, h2, z1, z2⟩
