/-! NEAR A PLACE: its order to the points besides. By hand (the proof of near_ex once more). -/
theorem St.near_ex2 {S : St} (hd : S.dist) {x y s p q p' q' : Int} (hs : 0 < s) (hpq : p * q' - q * p' ≠ 0) : ∃ X Y Z : Int, S.near1 x y s p q X Y Z ∧ ∀ u : Nat, (s * S.xs u < x → Z * S.xs u < X) ∧ (x < s * S.xs u → X < Z * S.xs u) := by
  -- one K for all
  let F : Nat → Int := fun e => iabs (S.Ls (e / 40) (e % 40) p q) + iabs (S.Ls (e / 40) (e % 40) p' q')
  let K : Int := 1 + sumR 1600 F + (iabs p + iabs p') + (iabs q + iabs q')
  have hF : ∀ k : Nat, k < 1600 → 0 ≤ F k := fun k _ => by
    have := iabs_0 (S.Ls (k / 40) (k % 40) p q)
    have := iabs_0 (S.Ls (k / 40) (k % 40) p' q')
    show 0 ≤ iabs _ + iabs _
    omega
  have hF0 := sumR_nonneg hF
  have a1 := iabs_0 p
  have a2 := iabs_0 p'
  have a3 := iabs_0 q
  have a4 := iabs_0 q'
  have hKF : ∀ u v : Nat, u < 40 → v < 40 → iabs (S.Ls u v p q) + iabs (S.Ls u v p' q') < K := by
    intro u v hu hv
    have h1 := sumR_part (f := F) (n := 1600) hF [u * 40 + v] (by simp) (by simp; omega)
    simp only [List.map_cons, List.map_nil, List.sum_cons, List.sum_nil] at h1
    have h2 : F (u * 40 + v) = iabs (S.Ls u v p q) + iabs (S.Ls u v p' q') := by
      show iabs (S.Ls ((u * 40 + v) / 40) ((u * 40 + v) % 40) p q) + iabs (S.Ls ((u * 40 + v) / 40) ((u * 40 + v) % 40) p' q') = _
      rw [show (u * 40 + v) / 40 = u by omega, show (u * 40 + v) % 40 = v by omega]
    show _ < 1 + sumR 1600 F + (iabs p + iabs p') + (iabs q + iabs q')
    omega
  have hK0 : 0 < K := by
    show 0 < 1 + sumR 1600 F + (iabs p + iabs p') + (iabs q + iabs q')
    omega
  have hKp : iabs p + iabs p' < K := by
    show _ < 1 + sumR 1600 F + (iabs p + iabs p') + (iabs q + iabs q')
    omega
  have hKq : iabs q + iabs q' < K := by
    show _ < 1 + sumR 1600 F + (iabs p + iabs p') + (iabs q + iabs q')
    omega
  generalize K = K at *
  have hsq : 0 < K * K := Int.mul_pos hK0 hK0
  have hH : ∀ u v : Nat, u < 40 → v < 40 → _ := fun u v hu hv => lex_pos (A := S.Hs u v x y s) (hKF u v hu hv)
  have key : ∀ c : Int, K * K * x + K * p + p' - c * (K * K * s) = K * K * (x - c * s) + K * p + p' := fun c => by grind
  have key2 : ∀ c : Int, K * K * y + K * q + q' - c * (K * K * s) = K * K * (y - c * s) + K * q + q' := fun c => by grind
  refine ⟨K * K * x + K * p + p', K * K * y + K * q + q', K * K * s, ?_, fun u => ?_⟩
  rotate_left
  · have h1 := lex_pos (A := x - S.xs u * s) (B := p) (C := p') hKp
    have h2 := key (S.xs u)
    have h3 : S.xs u * (K * K * s) = K * K * s * S.xs u := Int.mul_comm _ _
    have h4 : S.xs u * s = s * S.xs u := Int.mul_comm _ _
    constructor
    · intro z
      have := h1.1 (by omega)
      omega
    · intro z
      have := h1.2.1 (by omega)
      omega
  refine ⟨⟨Int.mul_pos hsq hs, fun u hu hus => ?_, fun u v hu hv hus hvs huv => ?_⟩, fun hin => ?_, fun u v hu hv => ?_, fun c1 c2 c3 c4 => ?_⟩
  · have h1 := lex_pos (A := x - S.xs u * s) (B := p) (C := p') hKp
    have h2 := key (S.xs u)
    intro z
    have h3 : K * K * (x - S.xs u * s) + K * p + p' = 0 := by
      rw [← h2, ← z, Int.mul_comm (S.xs u)]
      omega
    rcases Int.lt_trichotomy (x - S.xs u * s) 0 with g | g | g
    · have := h1.2.1 g; omega
    · rcases Int.lt_trichotomy p 0 with g2 | g2 | g2
      · have := h1.2.2.2.1 g g2; omega
      · have := h1.2.2.2.2 g g2
        have hp' : p' = 0 := by omega
        subst g2
        subst hp'
        rw [Int.zero_mul, Int.mul_zero] at hpq
        omega
      · have := h1.2.2.1 g g2; omega
    · have := h1.1 g; omega
  · rw [St.Hs_near]
    have h1 := hH u v hu hv
    intro z
    rcases Int.lt_trichotomy (S.Hs u v x y s) 0 with g | g | g
    · have := h1.2.1 g; omega
    · rcases Int.lt_trichotomy (S.Ls u v p q) 0 with g2 | g2 | g2
      · have := h1.2.2.2.1 g g2; omega
      · have g3 := h1.2.2.2.2 g g2
        have g4 : S.Ls u v p' q' = 0 := by omega
        unfold St.Ls at g2 g4
        have e1 : (S.xs v - S.xs u) * (p * q' - q * p') = 0 := by grind
        have e2 : (S.ys v - S.ys u) * (p * q' - q * p') = 0 := by grind
        have f1 := (Int.mul_eq_zero.mp e1).resolve_right hpq
        have f2 := (Int.mul_eq_zero.mp e2).resolve_right hpq
        exact huv (hd u v hu hv hus hvs (by omega) (by omega))
      · have := h1.2.2.1 g g2; omega
    · have := h1.1 g; omega
  · obtain ⟨i1, i2, i3, i4⟩ := hin
    have k1 := (lex_pos (A := x - (-1000) * s) (B := p) (C := p') hKp).1 (by omega)
    have k2 := (lex_pos (A := x - 1000 * s) (B := p) (C := p') hKp).2.1 (by omega)
    have k3 := (lex_pos (A := y - (-1000) * s) (B := q) (C := q') hKq).1 (by omega)
    have k4 := (lex_pos (A := y - 1000 * s) (B := q) (C := q') hKq).2.1 (by omega)
    rw [← key] at k1 k2
    rw [← key2] at k3 k4
    exact ⟨by omega, by omega, by omega, by omega⟩
  · rw [St.Hs_near]
    have h1 := hH u v hu hv
    exact ⟨h1.1, h1.2.1, h1.2.2.1, h1.2.2.2.1⟩
  · have l1 := lex_pos (A := x - (-1000) * s) (B := p) (C := p') hKp
    have l2 := lex_pos (A := x - 1000 * s) (B := p) (C := p') hKp
    have l3 := lex_pos (A := y - (-1000) * s) (B := q) (C := q') hKq
    have l4 := lex_pos (A := y - 1000 * s) (B := q) (C := q') hKq
    rw [← key] at l1 l2
    rw [← key2] at l3 l4
    refine ⟨?_, ?_, ?_, ?_⟩
    · rcases c1 with c | ⟨c, c'⟩
      · have := l1.1 (by omega); omega
      · have := l1.2.2.1 (by omega) c'; omega
    · rcases c2 with c | ⟨c, c'⟩
      · have := l2.2.1 (by omega); omega
      · have := l2.2.2.2.1 (by omega) c'; omega
    · rcases c3 with c | ⟨c, c'⟩
      · have := l3.1 (by omega); omega
      · have := l3.2.2.1 (by omega) c'; omega
    · rcases c4 with c | ⟨c, c'⟩
      · have := l4.2.1 (by omega); omega
      · have := l4.2.2.2.1 (by omega) c'; omega
