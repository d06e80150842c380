/-! THE CHECK AT ITS START; what it shows of each number of places and each width. By hand and by program (wip/tools/mk93n.py). -/
def GL : List (Nat × Nat) := [(19116, 4851), (16167, 29882), (14421, 28196), (2261, 7574), (14563, 25442), (8275, 23397), (29739, 16348), (29334, 11930), (11335, 22), (18835, 12840), (12730, 11901), (17399, 27148), (6928, 21167), (18396, 10351), (27570, 25405), (7723, 17598), (11439, 25936), (26202, 5808), (26384, 6087), (16741, 23828)]
def P0 : List PT := [((3, 0), ((2000, 4000000), (0, 3324923162394624))), ((2, 2000), ((2000, 8000000), (2199023255552000, 3324923162394624))), ((1, 2000), ((0, 4000000), (2199023255552000, 1125899906842624))), ((0, 0), ((0, 0), (0, 1125899906842624)))]
def D0 : List TR := [((0, (1, 2)), ((1091511627776, 1107511627776), (1125899906842624, 4000000))), ((0, (2, 3)), ((1091511627776, 1107511627776), (1125899906842624, 4000000)))]
def gchB : Nat → List (Nat × Nat) → Bool
  | _, [] => true
  | g, e :: G => decide (e = (dG g, dG (dG g))) && gchB (dG (dG g)) G
theorem gchB_ok : ∀ {G : List (Nat × Nat)} {g : Nat}, gchB g G = true → gch g G := by
  intro G
  induction G with
  | nil => intro g _; trivial
  | cons e G ih =>
    intro g h
    unfold gchB at h
    rw [Bool.and_eq_true, decide_eq_true_eq] at h
    exact ⟨h.1, ih h.2⟩
theorem gchGL : gch 313 GL := gchB_ok (by decide +kernel)
theorem m0_p : pInv P0 4 := by
  refine ⟨fun k hk => ?_, by decide +kernel⟩
  match k, hk with
  | 0, _ => exact ⟨by decide +kernel, ⟨by decide +kernel, by decide +kernel, by decide +kernel, by decide +kernel, by decide +kernel⟩, by decide +kernel⟩
  | 1, _ => exact ⟨by decide +kernel, ⟨by decide +kernel, by decide +kernel, by decide +kernel, by decide +kernel, by decide +kernel⟩, by decide +kernel⟩
  | 2, _ => exact ⟨by decide +kernel, ⟨by decide +kernel, by decide +kernel, by decide +kernel, by decide +kernel, by decide +kernel⟩, by decide +kernel⟩
  | 3, _ => exact ⟨by decide +kernel, ⟨by decide +kernel, by decide +kernel, by decide +kernel, by decide +kernel, by decide +kernel⟩, by decide +kernel⟩
theorem m0_c : Cn (xP P0) (yP P0) := ⟨⟨by decide +kernel, by decide +kernel⟩, ⟨by decide +kernel, by decide +kernel⟩, ⟨by decide +kernel, by decide +kernel⟩, ⟨by decide +kernel, by decide +kernel⟩⟩
theorem m0_t : ∀ t, t ∈ D0 → tInv P0 4 t := by
  intro t ht
  rcases List.mem_cons.mp ht with rfl | ht
  · exact ⟨by decide +kernel, by decide +kernel, by decide +kernel, ⟨by decide +kernel, by decide +kernel⟩, by decide +kernel, by decide +kernel⟩
  rcases List.mem_cons.mp ht with rfl | ht
  · exact ⟨by decide +kernel, by decide +kernel, by decide +kernel, ⟨by decide +kernel, by decide +kernel⟩, by decide +kernel, by decide +kernel⟩
  exact absurd ht List.not_mem_nil
theorem m0_d {t : Tri} (ht : t ∈ D0.map (fun t => t.1)) : t = (0, 1, 2) ∨ t = (0, 2, 3) := by
  rcases List.mem_cons.mp ht with rfl | ht
  · exact .inl rfl
  rcases List.mem_cons.mp ht with rfl | ht
  · exact .inr rfl
  exact absurd ht List.not_mem_nil
theorem m0_1 : ((0, 1, 2) : Tri) ∈ D0.map (fun t => t.1) := List.mem_cons_self
theorem m0_2 : ((0, 2, 3) : Tri) ∈ D0.map (fun t => t.1) := List.mem_cons_of_mem _ List.mem_cons_self
theorem m0 : mInv P0 D0 4 := by
  refine ⟨m0_p, by decide, m0_c, m0_t, ⟨fun t ht => ?_, fun t ht r hr g1 g2 g3 => ?_, fun t p q ht he hb => ?_, fun k hk => ?_⟩, by decide⟩
  · rcases m0_d ht with rfl | rfl
    · exact ⟨by decide, by decide, by decide, by decide +kernel⟩
    · exact ⟨by decide, by decide, by decide, by decide +kernel⟩
  · rcases m0_d ht with rfl | rfl
    · dsimp only at g1 g2 g3
      obtain rfl : r = 3 := by omega
      exact oRb_ok (by decide +kernel)
    · dsimp only at g1 g2 g3
      obtain rfl : r = 1 := by omega
      exact oRb_ok (by decide +kernel)
  · rcases m0_d ht with rfl | rfl
    · rcases hasE_of he with ⟨rfl, rfl⟩ | ⟨rfl, rfl⟩ | ⟨rfl, rfl⟩
      · exact absurd hb (by decide)
      · exact absurd hb (by decide)
      · exact ⟨_, m0_2, by decide⟩
    · rcases hasE_of he with ⟨rfl, rfl⟩ | ⟨rfl, rfl⟩ | ⟨rfl, rfl⟩
      · exact ⟨_, m0_1, by decide⟩
      · exact absurd hb (by decide)
      · exact absurd hb (by decide)
  · match k, hk with
    | 0, _ => exact ⟨_, m0_1, by decide⟩
    | 1, _ => exact ⟨_, m0_1, by decide⟩
    | 2, _ => exact ⟨_, m0_2, by decide⟩
    | 3, _ => exact ⟨_, m0_2, by decide⟩
/-- the reference's row as it is when the drawing begins -/
def f00 : Nat → Int32 := upd (kpF sA 1778) 0 (nI 1)
theorem f00_c : (List.range 40).all (fun k => decide (isP f00 k = decide (k < 4)) && (Nat.ble 4 k || (decide (xF f00 k = Int32.ofInt (xP P0 k - 1000)) && decide (yF f00 k = Int32.ofInt (yP P0 k - 1000))))) = true := by decide +kernel
theorem f00_b : (List.range 40).all (fun r => (List.range 40).all (fun s => decide (fxF f00 r s = bif bord4 r s then nI 2 else nI 0))) = true := by decide +kernel
theorem f00_i : fInv f00 P0 4 313 := by
  refine ⟨fun k hk => ?_, fun r s hr hs => ?_, by decide +kernel⟩
  · have h := List.all_eq_true.mp f00_c k (List.mem_range.mpr hk)
    rw [Bool.and_eq_true, decide_eq_true_eq] at h
    refine ⟨h.1, fun h4 => ?_⟩
    have h2 := h.2
    rw [Bool.or_eq_true, Bool.and_eq_true, decide_eq_true_eq, decide_eq_true_eq] at h2
    have w := (m0_p.1 k h4).2.1
    refine ⟨?_, ?_⟩
    · unfold xP yP
      have := w.2.2.2.1
      have := w.2.2.2.2
      omega
    · rcases h2 with h2 | h2
      · have := Nat.le_of_ble_eq_true h2
        omega
      · exact h2
  · have h := List.all_eq_true.mp f00_b r (List.mem_range.mpr hr)
    have h := List.all_eq_true.mp h s (List.mem_range.mpr hs)
    exact of_decide_eq_true h
-- the class's places
def pXn (m j : Nat) : Nat := dG (gS j) % (2 * m + 1) + 1000 - m
def pYn (m j : Nat) : Nat := dG (dG (gS j)) % (2 * m + 1) + 1000 - m
theorem plX_e {m j : Nat} (hm : m ≤ 1000) : plX m j = Int32.ofInt ((pXn m j : Int) - 1000) := dX_e hm rfl
theorem plY_e {m j : Nat} (hm : m ≤ 1000) : plY m j = Int32.ofInt ((pYn m j : Int) - 1000) := dX_e hm rfl
theorem pXn_le {m j : Nat} (hm : m ≤ 1000) : pXn m j ≤ 2000 ∧ pYn m j ≤ 2000 := by
  have h1 : dG (gS j) % (2 * m + 1) < 2 * m + 1 := Nat.mod_lt _ (by omega)
  have h2 : dG (dG (gS j)) % (2 * m + 1) < 2 * m + 1 := Nat.mod_lt _ (by omega)
  unfold pXn pYn
  omega
theorem c1000 : nI 1000 = Int32.ofInt (((2000 : Nat) : Int) - 1000) ∧ nI 4294966296 = Int32.ofInt (((0 : Nat) : Int) - 1000) := by decide +kernel
theorem sq_pl {X Y : Nat} (hX : X ≤ 2000) (hY : Y ≤ 2000) : sqB (Int32.ofInt ((X : Int) - 1000)) (Int32.ofInt ((Y : Int) - 1000)) = true := by
  unfold sqB
  rw [c1000.1, c1000.2]
  have a (A B : Nat) (hA : A ≤ 2000) (hB : B ≤ 2000) (h : B ≤ A) : ¬ (Int32.ofInt ((A : Int) - 1000) < Int32.ofInt ((B : Int) - 1000)) := by
    rw [Int32.lt_iff_toInt_lt, i32_small (by omega) (by omega), i32_small (by omega) (by omega)]
    omega
  rw [decide_eq_false (a X 0 hX (by omega) (by omega)), decide_eq_false (a Y 0 hY (by omega) (by omega)), decide_eq_false (a 2000 X (by omega) hX hX), decide_eq_false (a 2000 Y (by omega) hY hY)]
  rfl
theorem co_pl {X Y : Nat} (h1 : 1 ≤ X) (h2 : X ≤ 1999) : ¬ isCo (Int32.ofInt ((X : Int) - 1000)) (Int32.ofInt ((Y : Int) - 1000)) := by
  rintro ⟨h, _⟩
  rw [c1000.1, c1000.2, ofInt_eq (by omega) (by omega), ofInt_eq (by omega) (by omega)] at h
  omega
theorem isAt_new {P : List PT} {N X Y A B : Nat} (h : isAt P N X Y) : isAt (nP N A B :: P) (N + 1) X Y := by
  obtain ⟨j, j1, j2, j3⟩ := h
  exact ⟨j, by omega, by rw [lk_new j1]; exact j2, by rw [lk_new j1]; exact j3⟩
theorem isAt_top {P : List PT} {N A B : Nat} : isAt (nP N A B :: P) (N + 1) A B := ⟨N, Nat.lt_succ_self N, by rw [lk_top]; rfl, by rw [lk_top]; rfl⟩
theorem run_pl {m e : Nat} (hm : m ≤ 1000) : ∀ {G : List (Nat × Nat)} {P : List PT} {D : List TR} {N i : Nat}, runM m e G P D N = true → mInv P D N → gch (gS i) G → N + G.length = e → (∀ j, j < i → isAt P N (pXn m j) (pYn m j)) → ∀ j, i ≤ j → j < i + G.length → sqB (plX m j) (plY m j) = true ∧ ¬ isCo (plX m j) (plY m j) ∧ ¬ isPl m j (plX m j) (plY m j) := by
  intro G
  induction G with
  | nil => intro P D N i _ _ _ _ _ j h1 h2; rw [List.length_nil] at h2; omega
  | cons g G ih =>
    intro P D N i h I hg he ha j h1 h2
    rw [List.length_cons] at he h2
    rw [runM_s] at h
    obtain ⟨hg1, hg2⟩ := hg
    subst hg1
    obtain ⟨X, Y, hX, hY, hx, h3 | h3⟩ := stp_ok h I
    · have := run_le h3.2 I
      omega
    · obtain ⟨ht, D', I', h'⟩ := h3
      have hX : X = pXn m i := hX
      have hY : Y = pYn m i := hY
      by_cases hj : j = i
      · subst hj
        rw [plX_e hm, plY_e hm, ← hX, ← hY]
        refine ⟨sq_pl (by omega) (by omega), co_pl hx.1 hx.2.1, ?_⟩
        rintro ⟨k, k1, k2, k3⟩
        rw [plX_e hm, ofInt_eq (by omega) (pXn_le hm).1] at k2
        rw [plY_e hm, ofInt_eq (by omega) (pXn_le hm).2] at k3
        apply ht
        rw [k2, k3]
        exact ha k k1
      · refine ih (i := i + 1) h' I' hg2 (by omega) (fun k hk => ?_) j (by omega) (by omega)
        by_cases hk2 : k = i
        · rw [hk2, ← hX, ← hY]
          exact isAt_top
        · exact isAt_new (ha k (by omega))
/-- all that is wanted of a width at which no place comes twice -/
theorem cfg_ok {m n : Nat} (hm : m ≤ 1000) (hn : n ≤ 20) (h : runM m 24 GL P0 D0 4 = true) : plOK m n ∧ (dAll m n f00 313 0).2 = n ∧ ∃ L, layF (dAll m n f00 313 0).1 = some L ∧ good L := by
  refine ⟨fun i hi => run_pl (i := 0) hm h m0 gchGL rfl (fun j hj => absurd hj (Nat.not_lt_zero j)) i (Nat.zero_le i) (by show i < 0 + 20; omega), ?_, run_lay hm h m0 f00_i gchGL (by decide) n (by show n ≤ 20; exact hn)⟩
  have := run_all hm (came := 0) h m0 f00_i gchGL rfl (by decide) n (by show n ≤ 20; exact hn)
  omega
-- the widths at which a place comes twice
def dup (m : Nat) : Bool := [1, 2, 3, 5, 6, 7, 8, 16, 18, 24, 42].elem m
noncomputable def chkR (a n : Nat) : Bool := Nat.rec (motive := fun _ => Bool) true (fun j ih => bR (nF (Nat.add a j) fun m => bR (dup m) true (runM m 24 GL P0 D0 4)) ih false) n
theorem chkR_ok {a : Nat} : ∀ {n : Nat}, chkR a n = true → ∀ m, a ≤ m → m < a + n → dup m = true ∨ runM m 24 GL P0 D0 4 = true := by
  intro n
  induction n with
  | zero => intro _ m h1 h2; omega
  | succ n ih =>
    intro h m h1 h2
    have h : bR (nF (Nat.add a n) fun m => bR (dup m) true (runM m 24 GL P0 D0 4)) (chkR a n) false = true := h
    rw [nF_e] at h
    obtain ⟨h3, h4⟩ := bR_and h
    by_cases e : m = a + n
    · rw [e]
      exact bR_or h3
    · exact ih h4 m h1 (by omega)
