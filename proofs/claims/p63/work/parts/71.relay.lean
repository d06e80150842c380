/-! LAID ANEW: the rows of triangles give the mesh back. By hand. -/
def layR (c : Nat → Int) : Nat → St → St
  | 0, S => S
  | n + 1, S => (layR c n S).lay (c (3 * n)).toNat (c (3 * n + 1)).toNat (c (3 * n + 2)).toNat
theorem layR_O (c : Nat → Int) : ∀ (n : Nat) (S : St), ∃ ap : Nat → Int, layR c n S = S.u_ap ap := by
  intro n
  induction n with
  | zero => intro S; exact ⟨S.ap, rfl⟩
  | succ n ih =>
    intro S
    obtain ⟨ap, e⟩ := ih S
    refine ⟨ap3 ap (c (3 * n)).toNat (c (3 * n + 1)).toNat (c (3 * n + 2)).toNat (c (3 * n + 2)).toNat (c (3 * n)).toNat (c (3 * n + 1)).toNat, ?_⟩
    show (layR c n S).lay (c (3 * n)).toNat (c (3 * n + 1)).toNat (c (3 * n + 2)).toNat = _
    rw [e]
    rfl
theorem layR_ap {M S : St} {c : Nat → Int} (hG : M.Geo) (hl : M.lstT 1600) {T : Nat} (hT : M.tn = (T : Int)) (hc : ∀ j : Nat, j < 3 * T → c j = M.co j) (hS : ∀ e : Nat, e < 1600 → S.ap e = -1) : ∀ (n : Nat), n ≤ T → ∀ e : Nat, e < 1600 → ((∃ t : Nat, t < n ∧ e3 (M.cn t 0) (M.cn t 1) (M.cn t 2) (e / 40) (e % 40)) → (layR c n S).ap e = M.ap e) ∧ ((¬ ∃ t : Nat, t < n ∧ e3 (M.cn t 0) (M.cn t 1) (M.cn t 2) (e / 40) (e % 40)) → (layR c n S).ap e = -1) := by
  intro n
  induction n with
  | zero =>
    intro _ e he
    exact ⟨fun ⟨t, t1, _⟩ => by omega, fun _ => hS e he⟩
  | succ n ih =>
    intro hn e he
    obtain ⟨i1, i2⟩ := ih (by omega) e he
    obtain ⟨a, b, d, ha, hb, hd, hab, had, e1, e2, e4, e5, -⟩ := St.tri_at hG.PM hl hT (show n < T by omega)
    obtain ⟨k1, k2⟩ := hG.2.2.2.1 a b d ha hb hd e5
    have f1 : (c (3 * n)).toNat = a := by rw [hc _ (by omega)]; exact e1
    have f2 : (c (3 * n + 1)).toNat = b := by rw [hc _ (by omega)]; exact e2
    have f3 : (c (3 * n + 2)).toNat = d := by rw [hc _ (by omega)]; exact e4
    have el : (layR c (n + 1) S).ap e = if e = d * 40 + a then (b : Int) else if e = b * 40 + d then (a : Int) else if e = a * 40 + b then (d : Int) else (layR c n S).ap e := by
      show ((layR c n S).lay (c (3 * n)).toNat (c (3 * n + 1)).toNat (c (3 * n + 2)).toNat).ap e = _
      rw [f1, f2, f3]
      exact St.lay_ap _ _ _ _ _
    have here : e3 (M.cn n 0) (M.cn n 1) (M.cn n 2) (e / 40) (e % 40) ↔ e = a * 40 + b ∨ e = b * 40 + d ∨ e = d * 40 + a := by
      rw [e1, e2, e4]
      constructor
      · rintro (⟨z1, z2⟩ | ⟨z1, z2⟩ | ⟨z1, z2⟩)
        · left; omega
        · right; left; omega
        · right; right; omega
      · rintro (z | z | z)
        · left; omega
        · right; left; omega
        · right; right; omega
    rw [el]
    by_cases c0 : e = a * 40 + b ∨ e = b * 40 + d ∨ e = d * 40 + a
    · refine ⟨fun _ => ?_, fun z => absurd ⟨n, by omega, here.mpr c0⟩ z⟩
      rcases c0 with z | z | z
      · rw [if_neg (by omega), if_neg (by omega), if_pos z, z, e5]
      · rw [if_neg (by omega), if_pos z, z, k1]
      · rw [if_pos z, z, k2]
    · rw [if_neg (by omega), if_neg (by omega), if_neg (by omega)]
      refine ⟨fun ⟨t, t1, t2⟩ => ?_, fun z => i2 (fun ⟨t, t1, t2⟩ => z ⟨t, by omega, t2⟩)⟩
      by_cases ct : t = n
      · rw [ct] at t2
        exact absurd (here.mp t2) c0
      · exact i1 ⟨t, by omega, t2⟩
/-- all rows laid: what was -/
theorem layR_all {M S : St} {c : Nat → Int} (hG : M.Geo) (hl : M.lstT 1600) {T : Nat} (hT : M.tn = (T : Int)) (hc : ∀ j : Nat, j < 3 * T → c j = M.co j) (hS : ∀ e : Nat, e < 1600 → S.ap e = -1) : ∀ e : Nat, e < 1600 → (layR c T S).ap e = M.ap e := by
  intro e he
  obtain ⟨h1, h2⟩ := layR_ap hG hl hT hc hS T (Nat.le_refl _) e he
  by_cases c0 : M.ap e = -1
  · by_cases c1 : ∃ t : Nat, t < T ∧ e3 (M.cn t 0) (M.cn t 1) (M.cn t 2) (e / 40) (e % 40)
    · exact h1 c1
    · rw [h2 c1, c0]
  · apply h1
    obtain ⟨a, b, d, ha, hb, hd, e1, e2, e4, k1, k2, k3, g1, g2, g3, g4, n1, n2, n3⟩ := St.edge hG.2.2.1 hG.2.2.2.1 hG.2.2.2.2.1 he c0
    obtain ⟨u, v, w, hu, hv, hw, hz, su, uv, uw, hrot⟩ := St.least hG ha hb hd k1
    obtain ⟨t, ht, hi⟩ := St.tri_idx hT hl hu hv su uv uw hz
    obtain ⟨f1, f2, f3⟩ := hl.1.2.1 t _ hi
    have q1 : M.cn t 0 = u := by
      show (M.co (3 * t + 0)).toNat = u
      rw [Nat.add_zero, f1]; omega
    have q2 : M.cn t 1 = v := by
      show (M.co (3 * t + 1)).toNat = v
      rw [f2]; omega
    have q3 : M.cn t 2 = w := by
      show (M.co (3 * t + 2)).toNat = w
      rw [f3, hz]; omega
    refine ⟨t, ht, ?_⟩
    rw [q1, q2, q3, e2, e4]
    rcases hrot with ⟨r1, r2, r3⟩ | ⟨r1, r2, r3⟩ | ⟨r1, r2, r3⟩
    · exact Or.inl ⟨r1.symm, r2.symm⟩
    · exact Or.inr (Or.inr ⟨r3.symm, r1.symm⟩)
    · exact Or.inr (Or.inl ⟨r2.symm, r3.symm⟩)
