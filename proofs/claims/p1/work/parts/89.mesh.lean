/-! A MESH IN WHOLE NUMBERS, and that it closes for the reference. By hand. -/
/-- what the tests say of a triangle against a point -/
def oR (x y : Nat → Int) (t : Tri) (r : Nat) : Prop := (0 < tI x y t.1 t.2.1 r → tst x y t.1 t.2.1 t.2.2 r) ∧ (0 < tI x y t.2.1 t.2.2 r → tst x y t.2.1 t.2.2 t.1 r) ∧ (0 < tI x y t.2.2 t.1 r → tst x y t.2.2 t.1 t.2.1 r)
def okM (x y : Nat → Int) (N : Nat) (D : List Tri) : Prop := (∀ t, t ∈ D → t.1 < t.2.2 ∧ t.2.1 < t.2.2 ∧ t.2.2 < N ∧ 0 < tI x y t.1 t.2.1 t.2.2) ∧ (∀ t, t ∈ D → ∀ r, r < N → r ≠ t.1 → r ≠ t.2.1 → r ≠ t.2.2 → oR x y t r) ∧ (∀ t p q, t ∈ D → hasE t p q = true → bord4 p q = false → ∃ t', t' ∈ D ∧ hasE t' q p = true) ∧ (∀ k, k < 4 → ∃ t, t ∈ D ∧ hasE t k ((k + 1) % 4) = true)
theorem tst_of {x y : Nat → Int} {p q c r : Nat} (h : iI x y p q c r < 0) : tst x y p q c r := ⟨fun _ => beI_p (by rw [iI_s]; omega), fun _ => beI_n h⟩
theorem oR_of {x y : Nat → Int} {t : Tri} {r : Nat} (h : iI x y t.1 t.2.1 t.2.2 r < 0) : oR x y t r := ⟨fun _ => tst_of h, fun _ => tst_of (by rw [iI_c]; exact h), fun _ => tst_of (by rw [iI_c, iI_c]; exact h)⟩
theorem okM_corn {f : Nat → Int32} {N : Nat} {x y : Nat → Int} {D : List Tri} (H : crd f N x y) (hN : N ≤ 40) (h4 : 4 ≤ N) (hc : Cn x y) (hB : Bd f) (hD : okM x y N D) {d : Tri} {p q : Nat} (hd : d ∈ D) (he : hasE d p q = true) : isRot (p, q, cornF f p q) d := by
  obtain ⟨h1, h2, h3, h4'⟩ := hD.1 d hd
  have hR := hD.2.1 d hd
  obtain ⟨a, b, c⟩ := d
  dsimp only at h1 h2 h3 h4' hR
  rcases hasE_of he with ⟨rfl, rfl⟩ | ⟨rfl, rfl⟩ | ⟨rfl, rfl⟩
  · dsimp only
    rw [corn_t (c := c) H hN h4 hc hB (by omega) (by omega) h3 h4' (fun r g1 g2 g3 g4 g5 => (hR r g1 g2 g3 g4).1 g5)]
    exact .inl rfl
  · dsimp only
    rw [corn_t (c := a) H hN h4 hc hB (by omega) h3 (by omega) (by rw [tI_c]; exact h4') (fun r g1 g2 g3 g4 g5 => (hR r g1 g4 g2 g3).2.1 g5)]
    exact .inr (.inl rfl)
  · dsimp only
    rw [corn_t (c := b) H hN h4 hc hB h3 (by omega) (by omega) (by rw [tI_c, tI_c]; exact h4') (fun r g1 g2 g3 g4 g5 => (hR r g1 g3 g4 g2).2.2 g5)]
    exact .inr (.inr rfl)
theorem inw_dir {f : Nat → Int32} {N : Nat} {x y : Nat → Int} (H : crd f N x y) (hN : N ≤ 40) (h4 : 4 ≤ N) (hc : Cn x y) (hB : Bd f) {p q : Nat} (hp : p < 40) (hq : q < 40) (h : inwF f p q = true) : p < 4 ∧ q = (p + 1) % 4 := by
  unfold inwF at h
  rw [Bool.and_eq_true, decide_eq_true_eq, Bool.not_eq_true', decide_eq_false_iff_not] at h
  obtain ⟨h1, h2⟩ := h
  have hb : bord4 p q = true := by
    rw [hB p q hp hq] at h1
    cases e : bord4 p q with
    | true => rfl
    | false =>
      rw [e, cond_false] at h1
      exact absurd h1 (by decide)
  obtain ⟨⟨a1, a2⟩, ⟨a3, a4⟩, ⟨a5, a6⟩, ⟨a7, a8⟩⟩ := hc
  have x0 := crd_x H hN (k := 0) (by omega)
  have x1 := crd_x H hN (k := 1) (by omega)
  have x2 := crd_x H hN (k := 2) (by omega)
  have x3 := crd_x H hN (k := 3) (by omega)
  have y0 := crd_y H hN (k := 0) (by omega)
  have y1 := crd_y H hN (k := 1) (by omega)
  have y2 := crd_y H hN (k := 2) (by omega)
  have y3 := crd_y H hN (k := 3) (by omega)
  rw [a1] at x0
  rw [a3] at x1
  rw [a5] at x2
  rw [a7] at x3
  rw [a2] at y0
  rw [a4] at y1
  rw [a6] at y2
  rw [a8] at y3
  rcases bord4_of hb with ⟨rfl, rfl⟩ | ⟨rfl, rfl⟩ | ⟨rfl, rfl⟩ | ⟨rfl, rfl⟩ | ⟨rfl, rfl⟩ | ⟨rfl, rfl⟩ | ⟨rfl, rfl⟩ | ⟨rfl, rfl⟩
  · decide
  · unfold sideF at h2
    rw [x0, x1, y0, y1] at h2
    exact absurd (by decide) h2
  · decide
  · unfold sideF at h2
    rw [x1, x2, y1, y2] at h2
    exact absurd (by decide) h2
  · decide
  · unfold sideF at h2
    rw [x2, x3, y2, y3] at h2
    exact absurd (by decide) h2
  · decide
  · unfold sideF at h2
    rw [x0, x3, y0, y3] at h2
    exact absurd (by decide) h2
theorem okM_clo {f : Nat → Int32} {N : Nat} {x y : Nat → Int} {D : List Tri} (H : crd f N x y) (hN : N ≤ 40) (h4 : 4 ≤ N) (hc : Cn x y) (hB : Bd f) (hD : okM x y N D) : clo f D := by
  have h40 : ∀ d, d ∈ D → in40 d := fun d hd => by
    obtain ⟨h1, h2, h3, _⟩ := hD.1 d hd
    exact ⟨by omega, by omega, by omega⟩
  refine ⟨h40, fun d p q hd he hb => ?_, fun p q hp hq hi => ?_, fun d p q hd he => okM_corn H hN h4 hc hB hD hd he⟩
  · refine hD.2.2.1 d p q hd he ?_
    obtain ⟨k1, k2, k3⟩ := h40 d hd
    have hpq : p < 40 ∧ q < 40 := by
      rcases hasE_of he with ⟨rfl, rfl⟩ | ⟨rfl, rfl⟩ | ⟨rfl, rfl⟩
      · exact ⟨k1, k2⟩
      · exact ⟨k2, k3⟩
      · exact ⟨k3, k1⟩
    unfold bordF at hb
    rw [hB p q hpq.1 hpq.2, decide_eq_false_iff_not] at hb
    cases e : bord4 p q with
    | false => rfl
    | true =>
      rw [e] at hb
      exact absurd rfl hb
  · obtain ⟨h1, h2⟩ := inw_dir H hN h4 hc hB hp hq hi
    rw [h2]
    exact hD.2.2.2 p h1
theorem okM_lay {f : Nat → Int32} {N : Nat} {x y : Nat → Int} {D : List Tri} (H : crd f N x y) (hN : N ≤ 40) (h4 : 4 ≤ N) (hc : Cn x y) (hB : Bd f) (hD : okM x y N D) (h80 : D.length ≤ 80) : ∃ L, layF f = some L ∧ good L := lay_in (okM_clo H hN h4 hc hB hD) h80
