/-! THE MACHINE FOR THE KERNEL: branches. By program (wip/tools/mk43.py). -/
section LEAFB
variable {ρ : Nat → Int} {T : List Nat} {nx : Nat} {K : Prop}
theorem i32s {x : Int32} {n : Nat} (h : n < 4294967296) (e : x = Int32.ofNat n) : x.toInt = zZ n := by rw [e, i32t h]
theorem i32e {x y : Int32} : x = y ↔ x.toInt - y.toInt = 0 := ⟨fun h => by rw [h]; omega, fun h => Int32.toInt_inj.mp (by omega)⟩
theorem i32l {x y : Int32} : x < y ↔ x.toInt - y.toInt < 0 := by rw [Int32.lt_iff_toInt_lt]; omega
theorem i32l' {x y : Int32} : x ≤ y ↔ x.toInt - y.toInt ≤ 0 := by rw [Int32.le_iff_toInt_le]; omega
theorem i32g {x y : Int32} : y < x ↔ 0 < x.toInt - y.toInt := by rw [Int32.lt_iff_toInt_lt]; omega
theorem i32g' {x y : Int32} : y ≤ x ↔ 0 ≤ x.toInt - y.toInt := by rw [Int32.le_iff_toInt_le]; omega
theorem i32_0 : (0 : Int32).toInt = 0 := rfl
theorem zs_if_eq {nx0 t : Nat} (ht : t ∈ T) : zS ρ T (nx0 + 3) K (fun lv st w => pIf nx0 [t] lv st w (fun x => decide (x = 0))) (zq_if_eq t) := by
  intro kn E L S W v h
  obtain ⟨x, S, rfl, h⟩ := zL0 h
  have tk : (∀ c, yV ρ x c → ∃ a, c = .int a) → (∀ a : Int32, yV ρ x (.int a) → okD ρ W.1 → ((a.toInt - (0 : Int32).toInt) = 0)) → E.1 t L S W = some v → zOut ρ T (nx0 + 3) K (fun lv st w => pIf nx0 [t] lv st w (fun x => decide (x = 0))) kn E L (x :: S) W v := by
    intro ix H h
    refine .inr (.inl ⟨t, _, _, _, ht, h, fun lv st w hL hT hW => ?_⟩)
    obtain ⟨c, st, rfl, hc, hq⟩ := yT_c hT
    clear hT
    have hT := hq
    clear hq
    obtain ⟨a, rfl⟩ := ix c hc
    exact ⟨lv, st, w, hL, hT, hW, ps_if_t (f := fun x => decide (x = 0)) (decide_eq_true ((i32e).mpr (H a hc hW.1)))⟩
  have nt : (∀ c, yV ρ x c → ∃ a, c = .int a) → (∀ a : Int32, yV ρ x (.int a) → okD ρ W.1 → ¬ ((a.toInt - (0 : Int32).toInt) = 0)) → kn L S W = some v → zOut ρ T (nx0 + 3) K (fun lv st w => pIf nx0 [t] lv st w (fun x => decide (x = 0))) kn E L (x :: S) W v := by
    intro ix H h
    refine .inl ⟨_, _, _, h, fun lv st w hL hT hW => ?_⟩
    obtain ⟨c, st, rfl, hc, hq⟩ := yT_c hT
    clear hT
    have hT := hq
    clear hq
    obtain ⟨a, rfl⟩ := ix c hc
    exact ⟨lv, st, w, hL, hT, hW, ps_if_f (f := fun x => decide (x = 0)) (decide_eq_false (mt (i32e).mp (H a hc hW.1)))⟩
  have slow : zSl (zBr (false, true, false) (zCmp W.1 x (.inl 0))) (kn L S W) (E.1 t L S W) = some v → zOut ρ T (nx0 + 3) K (fun lv st w => pIf nx0 [t] lv st w (fun x => decide (x = 0))) kn E L (x :: S) W v := by
    intro h
    have hk : ∀ s, zBr (false, true, false) (zCmp W.1 x (.inl 0)) = some s → ∃ p q, zPi x = some p ∧ zPi (.inl 0) = some q := by
      intro s e
      unfold zCmp at e
      split at e
      · rename_i p q hp hq
        exact ⟨p, q, hp, hq⟩
      · cases e
    rcases zSl_ok h with ⟨e, h⟩ | ⟨e, h⟩
    · obtain ⟨p, q, hp, hq⟩ := hk _ e
      refine nt (fun c hc => ⟨_, zPi_ok hp hc⟩) (fun a ha hD => ?_) h
      have hs := zCmp_ok hD ha (show yV ρ (.inl 0) (.int 0) from ⟨by decide, rfl⟩)
      rcases zBr_f hs e with ⟨g, g2⟩ | ⟨g, g2⟩ | ⟨g, g2⟩ <;> first | (cases g2; done) | omega
    · obtain ⟨p, q, hp, hq⟩ := hk _ e
      refine tk (fun c hc => ⟨_, zPi_ok hp hc⟩) (fun a ha hD => ?_) h
      have hs := zCmp_ok hD ha (show yV ρ (.inl 0) (.int 0) from ⟨by decide, rfl⟩)
      rcases zBr_t hs e with ⟨g, g2⟩ | ⟨g, g2⟩ | ⟨g, g2⟩ <;> first | (cases g2; done) | omega
  rcases zS2 h with ⟨n, rfl, h⟩ | ⟨z, rfl, h⟩
  · skip
    rcases zBi h with ⟨h1, h⟩ | ⟨h1, h⟩
    · have h1 : ¬ n = 0 := nbeqf h1
      refine nt (fun c hc => ⟨_, hc.2⟩) (fun a ha hD => ?_) h
      obtain ⟨hm, ea⟩ := ha
      injection ea with ea
      rw [i32s hm ea, zZ_eq, i32_0]
      split <;> omega
    · have h1 : n = 0 := pBeq h1
      refine tk (fun c hc => ⟨_, hc.2⟩) (fun a ha hD => ?_) h
      obtain ⟨hm, ea⟩ := ha
      injection ea with ea
      rw [i32s hm ea, zZ_eq, i32_0]
      split <;> omega
  · exact slow h
theorem zs_ic_eq {nx0 t : Nat} (ht : t ∈ T) : zS ρ T (nx0 + 3) K (fun lv st w => pIf2 nx0 [t] lv st w (fun x y => decide (x = y))) (zq_ic_eq t) := by
  intro kn E L S W v h
  obtain ⟨y, S, rfl, h⟩ := zL0 h
  obtain ⟨x, S, rfl, h⟩ := zL0 h
  have tk : (∀ c, yV ρ x c → ∃ a, c = .int a) → (∀ c, yV ρ y c → ∃ b, c = .int b) → (∀ a b : Int32, yV ρ x (.int a) → yV ρ y (.int b) → okD ρ W.1 → ((a.toInt - b.toInt) = 0)) → E.1 t L S W = some v → zOut ρ T (nx0 + 3) K (fun lv st w => pIf2 nx0 [t] lv st w (fun x y => decide (x = y))) kn E L (y :: x :: S) W v := by
    intro ix iy H h
    refine .inr (.inl ⟨t, _, _, _, ht, h, fun lv st w hL hT hW => ?_⟩)
    obtain ⟨d, st, rfl, hd, hq⟩ := yT_c hT
    clear hT
    have hT := hq
    clear hq
    obtain ⟨c, st, rfl, hc, hq⟩ := yT_c hT
    clear hT
    have hT := hq
    clear hq
    obtain ⟨a, rfl⟩ := ix c hc
    obtain ⟨b, rfl⟩ := iy d hd
    exact ⟨lv, st, w, hL, hT, hW, ps_if2_t (f := fun x y => decide (x = y)) (decide_eq_true ((i32e).mpr (H a b hc hd hW.1)))⟩
  have nt : (∀ c, yV ρ x c → ∃ a, c = .int a) → (∀ c, yV ρ y c → ∃ b, c = .int b) → (∀ a b : Int32, yV ρ x (.int a) → yV ρ y (.int b) → okD ρ W.1 → ¬ ((a.toInt - b.toInt) = 0)) → kn L S W = some v → zOut ρ T (nx0 + 3) K (fun lv st w => pIf2 nx0 [t] lv st w (fun x y => decide (x = y))) kn E L (y :: x :: S) W v := by
    intro ix iy H h
    refine .inl ⟨_, _, _, h, fun lv st w hL hT hW => ?_⟩
    obtain ⟨d, st, rfl, hd, hq⟩ := yT_c hT
    clear hT
    have hT := hq
    clear hq
    obtain ⟨c, st, rfl, hc, hq⟩ := yT_c hT
    clear hT
    have hT := hq
    clear hq
    obtain ⟨a, rfl⟩ := ix c hc
    obtain ⟨b, rfl⟩ := iy d hd
    exact ⟨lv, st, w, hL, hT, hW, ps_if2_f (f := fun x y => decide (x = y)) (decide_eq_false (mt (i32e).mp (H a b hc hd hW.1)))⟩
  have slow : zSl (zBr (false, true, false) (zCmp W.1 x (y))) (kn L S W) (E.1 t L S W) = some v → zOut ρ T (nx0 + 3) K (fun lv st w => pIf2 nx0 [t] lv st w (fun x y => decide (x = y))) kn E L (y :: x :: S) W v := by
    intro h
    have hk : ∀ s, zBr (false, true, false) (zCmp W.1 x (y)) = some s → ∃ p q, zPi x = some p ∧ zPi (y) = some q := by
      intro s e
      unfold zCmp at e
      split at e
      · rename_i p q hp hq
        exact ⟨p, q, hp, hq⟩
      · cases e
    rcases zSl_ok h with ⟨e, h⟩ | ⟨e, h⟩
    · obtain ⟨p, q, hp, hq⟩ := hk _ e
      refine nt (fun c hc => ⟨_, zPi_ok hp hc⟩) (fun c hc => ⟨_, zPi_ok hq hc⟩) (fun a b ha hb hD => ?_) h
      have hs := zCmp_ok hD ha hb
      rcases zBr_f hs e with ⟨g, g2⟩ | ⟨g, g2⟩ | ⟨g, g2⟩ <;> first | (cases g2; done) | omega
    · obtain ⟨p, q, hp, hq⟩ := hk _ e
      refine tk (fun c hc => ⟨_, zPi_ok hp hc⟩) (fun c hc => ⟨_, zPi_ok hq hc⟩) (fun a b ha hb hD => ?_) h
      have hs := zCmp_ok hD ha hb
      rcases zBr_t hs e with ⟨g, g2⟩ | ⟨g, g2⟩ | ⟨g, g2⟩ <;> first | (cases g2; done) | omega
  rcases zS2 h with ⟨m, rfl, h⟩ | ⟨z, rfl, h⟩
  · rcases zS2 h with ⟨n, rfl, h⟩ | ⟨z, rfl, h⟩
    · skip
      rcases zBi h with ⟨h1, h⟩ | ⟨h1, h⟩
      · have h1 : ¬ m = n := nbeqf h1
        refine nt (fun c hc => ⟨_, hc.2⟩) (fun c hc => ⟨_, hc.2⟩) (fun a b ha hb hD => ?_) h
        obtain ⟨hm, ea⟩ := ha
        obtain ⟨hn, eb⟩ := hb
        injection ea with ea
        injection eb with eb
        rw [i32s hm ea, i32s hn eb, zZ_eq, zZ_eq]
        split <;> split <;> omega
      · have h1 : m = n := pBeq h1
        refine tk (fun c hc => ⟨_, hc.2⟩) (fun c hc => ⟨_, hc.2⟩) (fun a b ha hb hD => ?_) h
        obtain ⟨hm, ea⟩ := ha
        obtain ⟨hn, eb⟩ := hb
        injection ea with ea
        injection eb with eb
        rw [i32s hm ea, i32s hn eb, zZ_eq, zZ_eq]
        split <;> split <;> omega
    · exact slow h
  · exact slow h
theorem zs_if_ne {nx0 t : Nat} (ht : t ∈ T) : zS ρ T (nx0 + 3) K (fun lv st w => pIf nx0 [t] lv st w (fun x => decide (¬ x = 0))) (zq_if_ne t) := by
  intro kn E L S W v h
  obtain ⟨x, S, rfl, h⟩ := zL0 h
  have tk : (∀ c, yV ρ x c → ∃ a, c = .int a) → (∀ a : Int32, yV ρ x (.int a) → okD ρ W.1 → (¬ (a.toInt - (0 : Int32).toInt) = 0)) → E.1 t L S W = some v → zOut ρ T (nx0 + 3) K (fun lv st w => pIf nx0 [t] lv st w (fun x => decide (¬ x = 0))) kn E L (x :: S) W v := by
    intro ix H h
    refine .inr (.inl ⟨t, _, _, _, ht, h, fun lv st w hL hT hW => ?_⟩)
    obtain ⟨c, st, rfl, hc, hq⟩ := yT_c hT
    clear hT
    have hT := hq
    clear hq
    obtain ⟨a, rfl⟩ := ix c hc
    exact ⟨lv, st, w, hL, hT, hW, ps_if_t (f := fun x => decide (¬ x = 0)) (decide_eq_true ((not_congr i32e).mpr (H a hc hW.1)))⟩
  have nt : (∀ c, yV ρ x c → ∃ a, c = .int a) → (∀ a : Int32, yV ρ x (.int a) → okD ρ W.1 → ¬ (¬ (a.toInt - (0 : Int32).toInt) = 0)) → kn L S W = some v → zOut ρ T (nx0 + 3) K (fun lv st w => pIf nx0 [t] lv st w (fun x => decide (¬ x = 0))) kn E L (x :: S) W v := by
    intro ix H h
    refine .inl ⟨_, _, _, h, fun lv st w hL hT hW => ?_⟩
    obtain ⟨c, st, rfl, hc, hq⟩ := yT_c hT
    clear hT
    have hT := hq
    clear hq
    obtain ⟨a, rfl⟩ := ix c hc
    exact ⟨lv, st, w, hL, hT, hW, ps_if_f (f := fun x => decide (¬ x = 0)) (decide_eq_false (mt (not_congr i32e).mp (H a hc hW.1)))⟩
  have slow : zSl (zBr (true, false, true) (zCmp W.1 x (.inl 0))) (kn L S W) (E.1 t L S W) = some v → zOut ρ T (nx0 + 3) K (fun lv st w => pIf nx0 [t] lv st w (fun x => decide (¬ x = 0))) kn E L (x :: S) W v := by
    intro h
    have hk : ∀ s, zBr (true, false, true) (zCmp W.1 x (.inl 0)) = some s → ∃ p q, zPi x = some p ∧ zPi (.inl 0) = some q := by
      intro s e
      unfold zCmp at e
      split at e
      · rename_i p q hp hq
        exact ⟨p, q, hp, hq⟩
      · cases e
    rcases zSl_ok h with ⟨e, h⟩ | ⟨e, h⟩
    · obtain ⟨p, q, hp, hq⟩ := hk _ e
      refine nt (fun c hc => ⟨_, zPi_ok hp hc⟩) (fun a ha hD => ?_) h
      have hs := zCmp_ok hD ha (show yV ρ (.inl 0) (.int 0) from ⟨by decide, rfl⟩)
      rcases zBr_f hs e with ⟨g, g2⟩ | ⟨g, g2⟩ | ⟨g, g2⟩ <;> first | (cases g2; done) | omega
    · obtain ⟨p, q, hp, hq⟩ := hk _ e
      refine tk (fun c hc => ⟨_, zPi_ok hp hc⟩) (fun a ha hD => ?_) h
      have hs := zCmp_ok hD ha (show yV ρ (.inl 0) (.int 0) from ⟨by decide, rfl⟩)
      rcases zBr_t hs e with ⟨g, g2⟩ | ⟨g, g2⟩ | ⟨g, g2⟩ <;> first | (cases g2; done) | omega
  rcases zS2 h with ⟨n, rfl, h⟩ | ⟨z, rfl, h⟩
  · skip
    rcases zBi h with ⟨h1, h⟩ | ⟨h1, h⟩
    · have h1 : ¬ n = 0 := nbeqf h1
      refine tk (fun c hc => ⟨_, hc.2⟩) (fun a ha hD => ?_) h
      obtain ⟨hm, ea⟩ := ha
      injection ea with ea
      rw [i32s hm ea, zZ_eq, i32_0]
      split <;> omega
    · have h1 : n = 0 := pBeq h1
      refine nt (fun c hc => ⟨_, hc.2⟩) (fun a ha hD => ?_) h
      obtain ⟨hm, ea⟩ := ha
      injection ea with ea
      rw [i32s hm ea, zZ_eq, i32_0]
      split <;> omega
  · exact slow h
theorem zs_ic_ne {nx0 t : Nat} (ht : t ∈ T) : zS ρ T (nx0 + 3) K (fun lv st w => pIf2 nx0 [t] lv st w (fun x y => decide (¬ x = y))) (zq_ic_ne t) := by
  intro kn E L S W v h
  obtain ⟨y, S, rfl, h⟩ := zL0 h
  obtain ⟨x, S, rfl, h⟩ := zL0 h
  have tk : (∀ c, yV ρ x c → ∃ a, c = .int a) → (∀ c, yV ρ y c → ∃ b, c = .int b) → (∀ a b : Int32, yV ρ x (.int a) → yV ρ y (.int b) → okD ρ W.1 → (¬ (a.toInt - b.toInt) = 0)) → E.1 t L S W = some v → zOut ρ T (nx0 + 3) K (fun lv st w => pIf2 nx0 [t] lv st w (fun x y => decide (¬ x = y))) kn E L (y :: x :: S) W v := by
    intro ix iy H h
    refine .inr (.inl ⟨t, _, _, _, ht, h, fun lv st w hL hT hW => ?_⟩)
    obtain ⟨d, st, rfl, hd, hq⟩ := yT_c hT
    clear hT
    have hT := hq
    clear hq
    obtain ⟨c, st, rfl, hc, hq⟩ := yT_c hT
    clear hT
    have hT := hq
    clear hq
    obtain ⟨a, rfl⟩ := ix c hc
    obtain ⟨b, rfl⟩ := iy d hd
    exact ⟨lv, st, w, hL, hT, hW, ps_if2_t (f := fun x y => decide (¬ x = y)) (decide_eq_true ((not_congr i32e).mpr (H a b hc hd hW.1)))⟩
  have nt : (∀ c, yV ρ x c → ∃ a, c = .int a) → (∀ c, yV ρ y c → ∃ b, c = .int b) → (∀ a b : Int32, yV ρ x (.int a) → yV ρ y (.int b) → okD ρ W.1 → ¬ (¬ (a.toInt - b.toInt) = 0)) → kn L S W = some v → zOut ρ T (nx0 + 3) K (fun lv st w => pIf2 nx0 [t] lv st w (fun x y => decide (¬ x = y))) kn E L (y :: x :: S) W v := by
    intro ix iy H h
    refine .inl ⟨_, _, _, h, fun lv st w hL hT hW => ?_⟩
    obtain ⟨d, st, rfl, hd, hq⟩ := yT_c hT
    clear hT
    have hT := hq
    clear hq
    obtain ⟨c, st, rfl, hc, hq⟩ := yT_c hT
    clear hT
    have hT := hq
    clear hq
    obtain ⟨a, rfl⟩ := ix c hc
    obtain ⟨b, rfl⟩ := iy d hd
    exact ⟨lv, st, w, hL, hT, hW, ps_if2_f (f := fun x y => decide (¬ x = y)) (decide_eq_false (mt (not_congr i32e).mp (H a b hc hd hW.1)))⟩
  have slow : zSl (zBr (true, false, true) (zCmp W.1 x (y))) (kn L S W) (E.1 t L S W) = some v → zOut ρ T (nx0 + 3) K (fun lv st w => pIf2 nx0 [t] lv st w (fun x y => decide (¬ x = y))) kn E L (y :: x :: S) W v := by
    intro h
    have hk : ∀ s, zBr (true, false, true) (zCmp W.1 x (y)) = some s → ∃ p q, zPi x = some p ∧ zPi (y) = some q := by
      intro s e
      unfold zCmp at e
      split at e
      · rename_i p q hp hq
        exact ⟨p, q, hp, hq⟩
      · cases e
    rcases zSl_ok h with ⟨e, h⟩ | ⟨e, h⟩
    · obtain ⟨p, q, hp, hq⟩ := hk _ e
      refine nt (fun c hc => ⟨_, zPi_ok hp hc⟩) (fun c hc => ⟨_, zPi_ok hq hc⟩) (fun a b ha hb hD => ?_) h
      have hs := zCmp_ok hD ha hb
      rcases zBr_f hs e with ⟨g, g2⟩ | ⟨g, g2⟩ | ⟨g, g2⟩ <;> first | (cases g2; done) | omega
    · obtain ⟨p, q, hp, hq⟩ := hk _ e
      refine tk (fun c hc => ⟨_, zPi_ok hp hc⟩) (fun c hc => ⟨_, zPi_ok hq hc⟩) (fun a b ha hb hD => ?_) h
      have hs := zCmp_ok hD ha hb
      rcases zBr_t hs e with ⟨g, g2⟩ | ⟨g, g2⟩ | ⟨g, g2⟩ <;> first | (cases g2; done) | omega
  rcases zS2 h with ⟨m, rfl, h⟩ | ⟨z, rfl, h⟩
  · rcases zS2 h with ⟨n, rfl, h⟩ | ⟨z, rfl, h⟩
    · skip
      rcases zBi h with ⟨h1, h⟩ | ⟨h1, h⟩
      · have h1 : ¬ m = n := nbeqf h1
        refine tk (fun c hc => ⟨_, hc.2⟩) (fun c hc => ⟨_, hc.2⟩) (fun a b ha hb hD => ?_) h
        obtain ⟨hm, ea⟩ := ha
        obtain ⟨hn, eb⟩ := hb
        injection ea with ea
        injection eb with eb
        rw [i32s hm ea, i32s hn eb, zZ_eq, zZ_eq]
        split <;> split <;> omega
      · have h1 : m = n := pBeq h1
        refine nt (fun c hc => ⟨_, hc.2⟩) (fun c hc => ⟨_, hc.2⟩) (fun a b ha hb hD => ?_) h
        obtain ⟨hm, ea⟩ := ha
        obtain ⟨hn, eb⟩ := hb
        injection ea with ea
        injection eb with eb
        rw [i32s hm ea, i32s hn eb, zZ_eq, zZ_eq]
        split <;> split <;> omega
    · exact slow h
  · exact slow h
theorem zs_if_lt {nx0 t : Nat} (ht : t ∈ T) : zS ρ T (nx0 + 3) K (fun lv st w => pIf nx0 [t] lv st w (fun x => decide (x < 0))) (zq_if_lt t) := by
  intro kn E L S W v h
  obtain ⟨x, S, rfl, h⟩ := zL0 h
  have tk : (∀ c, yV ρ x c → ∃ a, c = .int a) → (∀ a : Int32, yV ρ x (.int a) → okD ρ W.1 → ((a.toInt - (0 : Int32).toInt) < 0)) → E.1 t L S W = some v → zOut ρ T (nx0 + 3) K (fun lv st w => pIf nx0 [t] lv st w (fun x => decide (x < 0))) kn E L (x :: S) W v := by
    intro ix H h
    refine .inr (.inl ⟨t, _, _, _, ht, h, fun lv st w hL hT hW => ?_⟩)
    obtain ⟨c, st, rfl, hc, hq⟩ := yT_c hT
    clear hT
    have hT := hq
    clear hq
    obtain ⟨a, rfl⟩ := ix c hc
    exact ⟨lv, st, w, hL, hT, hW, ps_if_t (f := fun x => decide (x < 0)) (decide_eq_true ((i32l).mpr (H a hc hW.1)))⟩
  have nt : (∀ c, yV ρ x c → ∃ a, c = .int a) → (∀ a : Int32, yV ρ x (.int a) → okD ρ W.1 → ¬ ((a.toInt - (0 : Int32).toInt) < 0)) → kn L S W = some v → zOut ρ T (nx0 + 3) K (fun lv st w => pIf nx0 [t] lv st w (fun x => decide (x < 0))) kn E L (x :: S) W v := by
    intro ix H h
    refine .inl ⟨_, _, _, h, fun lv st w hL hT hW => ?_⟩
    obtain ⟨c, st, rfl, hc, hq⟩ := yT_c hT
    clear hT
    have hT := hq
    clear hq
    obtain ⟨a, rfl⟩ := ix c hc
    exact ⟨lv, st, w, hL, hT, hW, ps_if_f (f := fun x => decide (x < 0)) (decide_eq_false (mt (i32l).mp (H a hc hW.1)))⟩
  have slow : zSl (zBr (true, false, false) (zCmp W.1 x (.inl 0))) (kn L S W) (E.1 t L S W) = some v → zOut ρ T (nx0 + 3) K (fun lv st w => pIf nx0 [t] lv st w (fun x => decide (x < 0))) kn E L (x :: S) W v := by
    intro h
    have hk : ∀ s, zBr (true, false, false) (zCmp W.1 x (.inl 0)) = some s → ∃ p q, zPi x = some p ∧ zPi (.inl 0) = some q := by
      intro s e
      unfold zCmp at e
      split at e
      · rename_i p q hp hq
        exact ⟨p, q, hp, hq⟩
      · cases e
    rcases zSl_ok h with ⟨e, h⟩ | ⟨e, h⟩
    · obtain ⟨p, q, hp, hq⟩ := hk _ e
      refine nt (fun c hc => ⟨_, zPi_ok hp hc⟩) (fun a ha hD => ?_) h
      have hs := zCmp_ok hD ha (show yV ρ (.inl 0) (.int 0) from ⟨by decide, rfl⟩)
      rcases zBr_f hs e with ⟨g, g2⟩ | ⟨g, g2⟩ | ⟨g, g2⟩ <;> first | (cases g2; done) | omega
    · obtain ⟨p, q, hp, hq⟩ := hk _ e
      refine tk (fun c hc => ⟨_, zPi_ok hp hc⟩) (fun a ha hD => ?_) h
      have hs := zCmp_ok hD ha (show yV ρ (.inl 0) (.int 0) from ⟨by decide, rfl⟩)
      rcases zBr_t hs e with ⟨g, g2⟩ | ⟨g, g2⟩ | ⟨g, g2⟩ <;> first | (cases g2; done) | omega
  rcases zS2 h with ⟨n, rfl, h⟩ | ⟨z, rfl, h⟩
  · skip
    rcases zBi h with ⟨h1, h⟩ | ⟨h1, h⟩
    · have h1 := nblef h1
      refine nt (fun c hc => ⟨_, hc.2⟩) (fun a ha hD => ?_) h
      obtain ⟨hm, ea⟩ := ha
      injection ea with ea
      rw [i32s hm ea, zZ_eq, i32_0]
      split <;> omega
    · have h1 := pBle h1
      refine tk (fun c hc => ⟨_, hc.2⟩) (fun a ha hD => ?_) h
      obtain ⟨hm, ea⟩ := ha
      injection ea with ea
      rw [i32s hm ea, zZ_eq, i32_0]
      split <;> omega
  · exact slow h
theorem zs_ic_lt {nx0 t : Nat} (ht : t ∈ T) : zS ρ T (nx0 + 3) K (fun lv st w => pIf2 nx0 [t] lv st w (fun x y => decide (x < y))) (zq_ic_lt t) := by
  intro kn E L S W v h
  obtain ⟨y, S, rfl, h⟩ := zL0 h
  obtain ⟨x, S, rfl, h⟩ := zL0 h
  have tk : (∀ c, yV ρ x c → ∃ a, c = .int a) → (∀ c, yV ρ y c → ∃ b, c = .int b) → (∀ a b : Int32, yV ρ x (.int a) → yV ρ y (.int b) → okD ρ W.1 → ((a.toInt - b.toInt) < 0)) → E.1 t L S W = some v → zOut ρ T (nx0 + 3) K (fun lv st w => pIf2 nx0 [t] lv st w (fun x y => decide (x < y))) kn E L (y :: x :: S) W v := by
    intro ix iy H h
    refine .inr (.inl ⟨t, _, _, _, ht, h, fun lv st w hL hT hW => ?_⟩)
    obtain ⟨d, st, rfl, hd, hq⟩ := yT_c hT
    clear hT
    have hT := hq
    clear hq
    obtain ⟨c, st, rfl, hc, hq⟩ := yT_c hT
    clear hT
    have hT := hq
    clear hq
    obtain ⟨a, rfl⟩ := ix c hc
    obtain ⟨b, rfl⟩ := iy d hd
    exact ⟨lv, st, w, hL, hT, hW, ps_if2_t (f := fun x y => decide (x < y)) (decide_eq_true ((i32l).mpr (H a b hc hd hW.1)))⟩
  have nt : (∀ c, yV ρ x c → ∃ a, c = .int a) → (∀ c, yV ρ y c → ∃ b, c = .int b) → (∀ a b : Int32, yV ρ x (.int a) → yV ρ y (.int b) → okD ρ W.1 → ¬ ((a.toInt - b.toInt) < 0)) → kn L S W = some v → zOut ρ T (nx0 + 3) K (fun lv st w => pIf2 nx0 [t] lv st w (fun x y => decide (x < y))) kn E L (y :: x :: S) W v := by
    intro ix iy H h
    refine .inl ⟨_, _, _, h, fun lv st w hL hT hW => ?_⟩
    obtain ⟨d, st, rfl, hd, hq⟩ := yT_c hT
    clear hT
    have hT := hq
    clear hq
    obtain ⟨c, st, rfl, hc, hq⟩ := yT_c hT
    clear hT
    have hT := hq
    clear hq
    obtain ⟨a, rfl⟩ := ix c hc
    obtain ⟨b, rfl⟩ := iy d hd
    exact ⟨lv, st, w, hL, hT, hW, ps_if2_f (f := fun x y => decide (x < y)) (decide_eq_false (mt (i32l).mp (H a b hc hd hW.1)))⟩
  have slow : zSl (zBr (true, false, false) (zCmp W.1 x (y))) (kn L S W) (E.1 t L S W) = some v → zOut ρ T (nx0 + 3) K (fun lv st w => pIf2 nx0 [t] lv st w (fun x y => decide (x < y))) kn E L (y :: x :: S) W v := by
    intro h
    have hk : ∀ s, zBr (true, false, false) (zCmp W.1 x (y)) = some s → ∃ p q, zPi x = some p ∧ zPi (y) = some q := by
      intro s e
      unfold zCmp at e
      split at e
      · rename_i p q hp hq
        exact ⟨p, q, hp, hq⟩
      · cases e
    rcases zSl_ok h with ⟨e, h⟩ | ⟨e, h⟩
    · obtain ⟨p, q, hp, hq⟩ := hk _ e
      refine nt (fun c hc => ⟨_, zPi_ok hp hc⟩) (fun c hc => ⟨_, zPi_ok hq hc⟩) (fun a b ha hb hD => ?_) h
      have hs := zCmp_ok hD ha hb
      rcases zBr_f hs e with ⟨g, g2⟩ | ⟨g, g2⟩ | ⟨g, g2⟩ <;> first | (cases g2; done) | omega
    · obtain ⟨p, q, hp, hq⟩ := hk _ e
      refine tk (fun c hc => ⟨_, zPi_ok hp hc⟩) (fun c hc => ⟨_, zPi_ok hq hc⟩) (fun a b ha hb hD => ?_) h
      have hs := zCmp_ok hD ha hb
      rcases zBr_t hs e with ⟨g, g2⟩ | ⟨g, g2⟩ | ⟨g, g2⟩ <;> first | (cases g2; done) | omega
  rcases zS2 h with ⟨m, rfl, h⟩ | ⟨z, rfl, h⟩
  · rcases zS2 h with ⟨n, rfl, h⟩ | ⟨z, rfl, h⟩
    · skip
      rcases zBi h with ⟨h1, h⟩ | ⟨h1, h⟩
      · have h1 := zlt32_f h1
        refine nt (fun c hc => ⟨_, hc.2⟩) (fun c hc => ⟨_, hc.2⟩) (fun a b ha hb hD => ?_) h
        obtain ⟨hm, ea⟩ := ha
        obtain ⟨hn, eb⟩ := hb
        injection ea with ea
        injection eb with eb
        rw [i32s hm ea, i32s hn eb, zZ_eq, zZ_eq]
        split <;> split <;> omega
      · have h1 := zlt32_t h1
        refine tk (fun c hc => ⟨_, hc.2⟩) (fun c hc => ⟨_, hc.2⟩) (fun a b ha hb hD => ?_) h
        obtain ⟨hm, ea⟩ := ha
        obtain ⟨hn, eb⟩ := hb
        injection ea with ea
        injection eb with eb
        rw [i32s hm ea, i32s hn eb, zZ_eq, zZ_eq]
        split <;> split <;> omega
    · exact slow h
  · exact slow h
theorem zs_if_ge {nx0 t : Nat} (ht : t ∈ T) : zS ρ T (nx0 + 3) K (fun lv st w => pIf nx0 [t] lv st w (fun x => decide (0 ≤ x))) (zq_if_ge t) := by
  intro kn E L S W v h
  obtain ⟨x, S, rfl, h⟩ := zL0 h
  have tk : (∀ c, yV ρ x c → ∃ a, c = .int a) → (∀ a : Int32, yV ρ x (.int a) → okD ρ W.1 → (0 ≤ (a.toInt - (0 : Int32).toInt))) → E.1 t L S W = some v → zOut ρ T (nx0 + 3) K (fun lv st w => pIf nx0 [t] lv st w (fun x => decide (0 ≤ x))) kn E L (x :: S) W v := by
    intro ix H h
    refine .inr (.inl ⟨t, _, _, _, ht, h, fun lv st w hL hT hW => ?_⟩)
    obtain ⟨c, st, rfl, hc, hq⟩ := yT_c hT
    clear hT
    have hT := hq
    clear hq
    obtain ⟨a, rfl⟩ := ix c hc
    exact ⟨lv, st, w, hL, hT, hW, ps_if_t (f := fun x => decide (0 ≤ x)) (decide_eq_true ((i32g').mpr (H a hc hW.1)))⟩
  have nt : (∀ c, yV ρ x c → ∃ a, c = .int a) → (∀ a : Int32, yV ρ x (.int a) → okD ρ W.1 → ¬ (0 ≤ (a.toInt - (0 : Int32).toInt))) → kn L S W = some v → zOut ρ T (nx0 + 3) K (fun lv st w => pIf nx0 [t] lv st w (fun x => decide (0 ≤ x))) kn E L (x :: S) W v := by
    intro ix H h
    refine .inl ⟨_, _, _, h, fun lv st w hL hT hW => ?_⟩
    obtain ⟨c, st, rfl, hc, hq⟩ := yT_c hT
    clear hT
    have hT := hq
    clear hq
    obtain ⟨a, rfl⟩ := ix c hc
    exact ⟨lv, st, w, hL, hT, hW, ps_if_f (f := fun x => decide (0 ≤ x)) (decide_eq_false (mt (i32g').mp (H a hc hW.1)))⟩
  have slow : zSl (zBr (false, true, true) (zCmp W.1 x (.inl 0))) (kn L S W) (E.1 t L S W) = some v → zOut ρ T (nx0 + 3) K (fun lv st w => pIf nx0 [t] lv st w (fun x => decide (0 ≤ x))) kn E L (x :: S) W v := by
    intro h
    have hk : ∀ s, zBr (false, true, true) (zCmp W.1 x (.inl 0)) = some s → ∃ p q, zPi x = some p ∧ zPi (.inl 0) = some q := by
      intro s e
      unfold zCmp at e
      split at e
      · rename_i p q hp hq
        exact ⟨p, q, hp, hq⟩
      · cases e
    rcases zSl_ok h with ⟨e, h⟩ | ⟨e, h⟩
    · obtain ⟨p, q, hp, hq⟩ := hk _ e
      refine nt (fun c hc => ⟨_, zPi_ok hp hc⟩) (fun a ha hD => ?_) h
      have hs := zCmp_ok hD ha (show yV ρ (.inl 0) (.int 0) from ⟨by decide, rfl⟩)
      rcases zBr_f hs e with ⟨g, g2⟩ | ⟨g, g2⟩ | ⟨g, g2⟩ <;> first | (cases g2; done) | omega
    · obtain ⟨p, q, hp, hq⟩ := hk _ e
      refine tk (fun c hc => ⟨_, zPi_ok hp hc⟩) (fun a ha hD => ?_) h
      have hs := zCmp_ok hD ha (show yV ρ (.inl 0) (.int 0) from ⟨by decide, rfl⟩)
      rcases zBr_t hs e with ⟨g, g2⟩ | ⟨g, g2⟩ | ⟨g, g2⟩ <;> first | (cases g2; done) | omega
  rcases zS2 h with ⟨n, rfl, h⟩ | ⟨z, rfl, h⟩
  · skip
    rcases zBi h with ⟨h1, h⟩ | ⟨h1, h⟩
    · have h1 := nblef h1
      refine tk (fun c hc => ⟨_, hc.2⟩) (fun a ha hD => ?_) h
      obtain ⟨hm, ea⟩ := ha
      injection ea with ea
      rw [i32s hm ea, zZ_eq, i32_0]
      split <;> omega
    · have h1 := pBle h1
      refine nt (fun c hc => ⟨_, hc.2⟩) (fun a ha hD => ?_) h
      obtain ⟨hm, ea⟩ := ha
      injection ea with ea
      rw [i32s hm ea, zZ_eq, i32_0]
      split <;> omega
  · exact slow h
theorem zs_ic_ge {nx0 t : Nat} (ht : t ∈ T) : zS ρ T (nx0 + 3) K (fun lv st w => pIf2 nx0 [t] lv st w (fun x y => decide (y ≤ x))) (zq_ic_ge t) := by
  intro kn E L S W v h
  obtain ⟨y, S, rfl, h⟩ := zL0 h
  obtain ⟨x, S, rfl, h⟩ := zL0 h
  have tk : (∀ c, yV ρ x c → ∃ a, c = .int a) → (∀ c, yV ρ y c → ∃ b, c = .int b) → (∀ a b : Int32, yV ρ x (.int a) → yV ρ y (.int b) → okD ρ W.1 → (0 ≤ (a.toInt - b.toInt))) → E.1 t L S W = some v → zOut ρ T (nx0 + 3) K (fun lv st w => pIf2 nx0 [t] lv st w (fun x y => decide (y ≤ x))) kn E L (y :: x :: S) W v := by
    intro ix iy H h
    refine .inr (.inl ⟨t, _, _, _, ht, h, fun lv st w hL hT hW => ?_⟩)
    obtain ⟨d, st, rfl, hd, hq⟩ := yT_c hT
    clear hT
    have hT := hq
    clear hq
    obtain ⟨c, st, rfl, hc, hq⟩ := yT_c hT
    clear hT
    have hT := hq
    clear hq
    obtain ⟨a, rfl⟩ := ix c hc
    obtain ⟨b, rfl⟩ := iy d hd
    exact ⟨lv, st, w, hL, hT, hW, ps_if2_t (f := fun x y => decide (y ≤ x)) (decide_eq_true ((i32g').mpr (H a b hc hd hW.1)))⟩
  have nt : (∀ c, yV ρ x c → ∃ a, c = .int a) → (∀ c, yV ρ y c → ∃ b, c = .int b) → (∀ a b : Int32, yV ρ x (.int a) → yV ρ y (.int b) → okD ρ W.1 → ¬ (0 ≤ (a.toInt - b.toInt))) → kn L S W = some v → zOut ρ T (nx0 + 3) K (fun lv st w => pIf2 nx0 [t] lv st w (fun x y => decide (y ≤ x))) kn E L (y :: x :: S) W v := by
    intro ix iy H h
    refine .inl ⟨_, _, _, h, fun lv st w hL hT hW => ?_⟩
    obtain ⟨d, st, rfl, hd, hq⟩ := yT_c hT
    clear hT
    have hT := hq
    clear hq
    obtain ⟨c, st, rfl, hc, hq⟩ := yT_c hT
    clear hT
    have hT := hq
    clear hq
    obtain ⟨a, rfl⟩ := ix c hc
    obtain ⟨b, rfl⟩ := iy d hd
    exact ⟨lv, st, w, hL, hT, hW, ps_if2_f (f := fun x y => decide (y ≤ x)) (decide_eq_false (mt (i32g').mp (H a b hc hd hW.1)))⟩
  have slow : zSl (zBr (false, true, true) (zCmp W.1 x (y))) (kn L S W) (E.1 t L S W) = some v → zOut ρ T (nx0 + 3) K (fun lv st w => pIf2 nx0 [t] lv st w (fun x y => decide (y ≤ x))) kn E L (y :: x :: S) W v := by
    intro h
    have hk : ∀ s, zBr (false, true, true) (zCmp W.1 x (y)) = some s → ∃ p q, zPi x = some p ∧ zPi (y) = some q := by
      intro s e
      unfold zCmp at e
      split at e
      · rename_i p q hp hq
        exact ⟨p, q, hp, hq⟩
      · cases e
    rcases zSl_ok h with ⟨e, h⟩ | ⟨e, h⟩
    · obtain ⟨p, q, hp, hq⟩ := hk _ e
      refine nt (fun c hc => ⟨_, zPi_ok hp hc⟩) (fun c hc => ⟨_, zPi_ok hq hc⟩) (fun a b ha hb hD => ?_) h
      have hs := zCmp_ok hD ha hb
      rcases zBr_f hs e with ⟨g, g2⟩ | ⟨g, g2⟩ | ⟨g, g2⟩ <;> first | (cases g2; done) | omega
    · obtain ⟨p, q, hp, hq⟩ := hk _ e
      refine tk (fun c hc => ⟨_, zPi_ok hp hc⟩) (fun c hc => ⟨_, zPi_ok hq hc⟩) (fun a b ha hb hD => ?_) h
      have hs := zCmp_ok hD ha hb
      rcases zBr_t hs e with ⟨g, g2⟩ | ⟨g, g2⟩ | ⟨g, g2⟩ <;> first | (cases g2; done) | omega
  rcases zS2 h with ⟨m, rfl, h⟩ | ⟨z, rfl, h⟩
  · rcases zS2 h with ⟨n, rfl, h⟩ | ⟨z, rfl, h⟩
    · skip
      rcases zBi h with ⟨h1, h⟩ | ⟨h1, h⟩
      · have h1 := zlt32_f h1
        refine tk (fun c hc => ⟨_, hc.2⟩) (fun c hc => ⟨_, hc.2⟩) (fun a b ha hb hD => ?_) h
        obtain ⟨hm, ea⟩ := ha
        obtain ⟨hn, eb⟩ := hb
        injection ea with ea
        injection eb with eb
        rw [i32s hm ea, i32s hn eb, zZ_eq, zZ_eq]
        split <;> split <;> omega
      · have h1 := zlt32_t h1
        refine nt (fun c hc => ⟨_, hc.2⟩) (fun c hc => ⟨_, hc.2⟩) (fun a b ha hb hD => ?_) h
        obtain ⟨hm, ea⟩ := ha
        obtain ⟨hn, eb⟩ := hb
        injection ea with ea
        injection eb with eb
        rw [i32s hm ea, i32s hn eb, zZ_eq, zZ_eq]
        split <;> split <;> omega
    · exact slow h
  · exact slow h
theorem zs_if_gt {nx0 t : Nat} (ht : t ∈ T) : zS ρ T (nx0 + 3) K (fun lv st w => pIf nx0 [t] lv st w (fun x => decide (0 < x))) (zq_if_gt t) := by
  intro kn E L S W v h
  obtain ⟨x, S, rfl, h⟩ := zL0 h
  have tk : (∀ c, yV ρ x c → ∃ a, c = .int a) → (∀ a : Int32, yV ρ x (.int a) → okD ρ W.1 → (0 < (a.toInt - (0 : Int32).toInt))) → E.1 t L S W = some v → zOut ρ T (nx0 + 3) K (fun lv st w => pIf nx0 [t] lv st w (fun x => decide (0 < x))) kn E L (x :: S) W v := by
    intro ix H h
    refine .inr (.inl ⟨t, _, _, _, ht, h, fun lv st w hL hT hW => ?_⟩)
    obtain ⟨c, st, rfl, hc, hq⟩ := yT_c hT
    clear hT
    have hT := hq
    clear hq
    obtain ⟨a, rfl⟩ := ix c hc
    exact ⟨lv, st, w, hL, hT, hW, ps_if_t (f := fun x => decide (0 < x)) (decide_eq_true ((i32g).mpr (H a hc hW.1)))⟩
  have nt : (∀ c, yV ρ x c → ∃ a, c = .int a) → (∀ a : Int32, yV ρ x (.int a) → okD ρ W.1 → ¬ (0 < (a.toInt - (0 : Int32).toInt))) → kn L S W = some v → zOut ρ T (nx0 + 3) K (fun lv st w => pIf nx0 [t] lv st w (fun x => decide (0 < x))) kn E L (x :: S) W v := by
    intro ix H h
    refine .inl ⟨_, _, _, h, fun lv st w hL hT hW => ?_⟩
    obtain ⟨c, st, rfl, hc, hq⟩ := yT_c hT
    clear hT
    have hT := hq
    clear hq
    obtain ⟨a, rfl⟩ := ix c hc
    exact ⟨lv, st, w, hL, hT, hW, ps_if_f (f := fun x => decide (0 < x)) (decide_eq_false (mt (i32g).mp (H a hc hW.1)))⟩
  have slow : zSl (zBr (false, false, true) (zCmp W.1 x (.inl 0))) (kn L S W) (E.1 t L S W) = some v → zOut ρ T (nx0 + 3) K (fun lv st w => pIf nx0 [t] lv st w (fun x => decide (0 < x))) kn E L (x :: S) W v := by
    intro h
    have hk : ∀ s, zBr (false, false, true) (zCmp W.1 x (.inl 0)) = some s → ∃ p q, zPi x = some p ∧ zPi (.inl 0) = some q := by
      intro s e
      unfold zCmp at e
      split at e
      · rename_i p q hp hq
        exact ⟨p, q, hp, hq⟩
      · cases e
    rcases zSl_ok h with ⟨e, h⟩ | ⟨e, h⟩
    · obtain ⟨p, q, hp, hq⟩ := hk _ e
      refine nt (fun c hc => ⟨_, zPi_ok hp hc⟩) (fun a ha hD => ?_) h
      have hs := zCmp_ok hD ha (show yV ρ (.inl 0) (.int 0) from ⟨by decide, rfl⟩)
      rcases zBr_f hs e with ⟨g, g2⟩ | ⟨g, g2⟩ | ⟨g, g2⟩ <;> first | (cases g2; done) | omega
    · obtain ⟨p, q, hp, hq⟩ := hk _ e
      refine tk (fun c hc => ⟨_, zPi_ok hp hc⟩) (fun a ha hD => ?_) h
      have hs := zCmp_ok hD ha (show yV ρ (.inl 0) (.int 0) from ⟨by decide, rfl⟩)
      rcases zBr_t hs e with ⟨g, g2⟩ | ⟨g, g2⟩ | ⟨g, g2⟩ <;> first | (cases g2; done) | omega
  rcases zS2 h with ⟨n, rfl, h⟩ | ⟨z, rfl, h⟩
  · skip
    rcases zBi h with ⟨h1, h⟩ | ⟨h1, h⟩
    · have h1 := zle0_f h1
      refine tk (fun c hc => ⟨_, hc.2⟩) (fun a ha hD => ?_) h
      obtain ⟨hm, ea⟩ := ha
      injection ea with ea
      rw [i32s hm ea, zZ_eq, i32_0]
      split <;> omega
    · have h1 := zle0_t h1
      refine nt (fun c hc => ⟨_, hc.2⟩) (fun a ha hD => ?_) h
      obtain ⟨hm, ea⟩ := ha
      injection ea with ea
      rw [i32s hm ea, zZ_eq, i32_0]
      split <;> omega
  · exact slow h
theorem zs_ic_gt {nx0 t : Nat} (ht : t ∈ T) : zS ρ T (nx0 + 3) K (fun lv st w => pIf2 nx0 [t] lv st w (fun x y => decide (y < x))) (zq_ic_gt t) := by
  intro kn E L S W v h
  obtain ⟨y, S, rfl, h⟩ := zL0 h
  obtain ⟨x, S, rfl, h⟩ := zL0 h
  have tk : (∀ c, yV ρ x c → ∃ a, c = .int a) → (∀ c, yV ρ y c → ∃ b, c = .int b) → (∀ a b : Int32, yV ρ x (.int a) → yV ρ y (.int b) → okD ρ W.1 → (0 < (a.toInt - b.toInt))) → E.1 t L S W = some v → zOut ρ T (nx0 + 3) K (fun lv st w => pIf2 nx0 [t] lv st w (fun x y => decide (y < x))) kn E L (y :: x :: S) W v := by
    intro ix iy H h
    refine .inr (.inl ⟨t, _, _, _, ht, h, fun lv st w hL hT hW => ?_⟩)
    obtain ⟨d, st, rfl, hd, hq⟩ := yT_c hT
    clear hT
    have hT := hq
    clear hq
    obtain ⟨c, st, rfl, hc, hq⟩ := yT_c hT
    clear hT
    have hT := hq
    clear hq
    obtain ⟨a, rfl⟩ := ix c hc
    obtain ⟨b, rfl⟩ := iy d hd
    exact ⟨lv, st, w, hL, hT, hW, ps_if2_t (f := fun x y => decide (y < x)) (decide_eq_true ((i32g).mpr (H a b hc hd hW.1)))⟩
  have nt : (∀ c, yV ρ x c → ∃ a, c = .int a) → (∀ c, yV ρ y c → ∃ b, c = .int b) → (∀ a b : Int32, yV ρ x (.int a) → yV ρ y (.int b) → okD ρ W.1 → ¬ (0 < (a.toInt - b.toInt))) → kn L S W = some v → zOut ρ T (nx0 + 3) K (fun lv st w => pIf2 nx0 [t] lv st w (fun x y => decide (y < x))) kn E L (y :: x :: S) W v := by
    intro ix iy H h
    refine .inl ⟨_, _, _, h, fun lv st w hL hT hW => ?_⟩
    obtain ⟨d, st, rfl, hd, hq⟩ := yT_c hT
    clear hT
    have hT := hq
    clear hq
    obtain ⟨c, st, rfl, hc, hq⟩ := yT_c hT
    clear hT
    have hT := hq
    clear hq
    obtain ⟨a, rfl⟩ := ix c hc
    obtain ⟨b, rfl⟩ := iy d hd
    exact ⟨lv, st, w, hL, hT, hW, ps_if2_f (f := fun x y => decide (y < x)) (decide_eq_false (mt (i32g).mp (H a b hc hd hW.1)))⟩
  have slow : zSl (zBr (false, false, true) (zCmp W.1 x (y))) (kn L S W) (E.1 t L S W) = some v → zOut ρ T (nx0 + 3) K (fun lv st w => pIf2 nx0 [t] lv st w (fun x y => decide (y < x))) kn E L (y :: x :: S) W v := by
    intro h
    have hk : ∀ s, zBr (false, false, true) (zCmp W.1 x (y)) = some s → ∃ p q, zPi x = some p ∧ zPi (y) = some q := by
      intro s e
      unfold zCmp at e
      split at e
      · rename_i p q hp hq
        exact ⟨p, q, hp, hq⟩
      · cases e
    rcases zSl_ok h with ⟨e, h⟩ | ⟨e, h⟩
    · obtain ⟨p, q, hp, hq⟩ := hk _ e
      refine nt (fun c hc => ⟨_, zPi_ok hp hc⟩) (fun c hc => ⟨_, zPi_ok hq hc⟩) (fun a b ha hb hD => ?_) h
      have hs := zCmp_ok hD ha hb
      rcases zBr_f hs e with ⟨g, g2⟩ | ⟨g, g2⟩ | ⟨g, g2⟩ <;> first | (cases g2; done) | omega
    · obtain ⟨p, q, hp, hq⟩ := hk _ e
      refine tk (fun c hc => ⟨_, zPi_ok hp hc⟩) (fun c hc => ⟨_, zPi_ok hq hc⟩) (fun a b ha hb hD => ?_) h
      have hs := zCmp_ok hD ha hb
      rcases zBr_t hs e with ⟨g, g2⟩ | ⟨g, g2⟩ | ⟨g, g2⟩ <;> first | (cases g2; done) | omega
  rcases zS2 h with ⟨m, rfl, h⟩ | ⟨z, rfl, h⟩
  · rcases zS2 h with ⟨n, rfl, h⟩ | ⟨z, rfl, h⟩
    · skip
      rcases zBi h with ⟨h1, h⟩ | ⟨h1, h⟩
      · have h1 := zle32_f h1
        refine tk (fun c hc => ⟨_, hc.2⟩) (fun c hc => ⟨_, hc.2⟩) (fun a b ha hb hD => ?_) h
        obtain ⟨hm, ea⟩ := ha
        obtain ⟨hn, eb⟩ := hb
        injection ea with ea
        injection eb with eb
        rw [i32s hm ea, i32s hn eb, zZ_eq, zZ_eq]
        split <;> split <;> omega
      · have h1 := zle32_t h1
        refine nt (fun c hc => ⟨_, hc.2⟩) (fun c hc => ⟨_, hc.2⟩) (fun a b ha hb hD => ?_) h
        obtain ⟨hm, ea⟩ := ha
        obtain ⟨hn, eb⟩ := hb
        injection ea with ea
        injection eb with eb
        rw [i32s hm ea, i32s hn eb, zZ_eq, zZ_eq]
        split <;> split <;> omega
    · exact slow h
  · exact slow h
theorem zs_if_le {nx0 t : Nat} (ht : t ∈ T) : zS ρ T (nx0 + 3) K (fun lv st w => pIf nx0 [t] lv st w (fun x => decide (x ≤ 0))) (zq_if_le t) := by
  intro kn E L S W v h
  obtain ⟨x, S, rfl, h⟩ := zL0 h
  have tk : (∀ c, yV ρ x c → ∃ a, c = .int a) → (∀ a : Int32, yV ρ x (.int a) → okD ρ W.1 → ((a.toInt - (0 : Int32).toInt) ≤ 0)) → E.1 t L S W = some v → zOut ρ T (nx0 + 3) K (fun lv st w => pIf nx0 [t] lv st w (fun x => decide (x ≤ 0))) kn E L (x :: S) W v := by
    intro ix H h
    refine .inr (.inl ⟨t, _, _, _, ht, h, fun lv st w hL hT hW => ?_⟩)
    obtain ⟨c, st, rfl, hc, hq⟩ := yT_c hT
    clear hT
    have hT := hq
    clear hq
    obtain ⟨a, rfl⟩ := ix c hc
    exact ⟨lv, st, w, hL, hT, hW, ps_if_t (f := fun x => decide (x ≤ 0)) (decide_eq_true ((i32l').mpr (H a hc hW.1)))⟩
  have nt : (∀ c, yV ρ x c → ∃ a, c = .int a) → (∀ a : Int32, yV ρ x (.int a) → okD ρ W.1 → ¬ ((a.toInt - (0 : Int32).toInt) ≤ 0)) → kn L S W = some v → zOut ρ T (nx0 + 3) K (fun lv st w => pIf nx0 [t] lv st w (fun x => decide (x ≤ 0))) kn E L (x :: S) W v := by
    intro ix H h
    refine .inl ⟨_, _, _, h, fun lv st w hL hT hW => ?_⟩
    obtain ⟨c, st, rfl, hc, hq⟩ := yT_c hT
    clear hT
    have hT := hq
    clear hq
    obtain ⟨a, rfl⟩ := ix c hc
    exact ⟨lv, st, w, hL, hT, hW, ps_if_f (f := fun x => decide (x ≤ 0)) (decide_eq_false (mt (i32l').mp (H a hc hW.1)))⟩
  have slow : zSl (zBr (true, true, false) (zCmp W.1 x (.inl 0))) (kn L S W) (E.1 t L S W) = some v → zOut ρ T (nx0 + 3) K (fun lv st w => pIf nx0 [t] lv st w (fun x => decide (x ≤ 0))) kn E L (x :: S) W v := by
    intro h
    have hk : ∀ s, zBr (true, true, false) (zCmp W.1 x (.inl 0)) = some s → ∃ p q, zPi x = some p ∧ zPi (.inl 0) = some q := by
      intro s e
      unfold zCmp at e
      split at e
      · rename_i p q hp hq
        exact ⟨p, q, hp, hq⟩
      · cases e
    rcases zSl_ok h with ⟨e, h⟩ | ⟨e, h⟩
    · obtain ⟨p, q, hp, hq⟩ := hk _ e
      refine nt (fun c hc => ⟨_, zPi_ok hp hc⟩) (fun a ha hD => ?_) h
      have hs := zCmp_ok hD ha (show yV ρ (.inl 0) (.int 0) from ⟨by decide, rfl⟩)
      rcases zBr_f hs e with ⟨g, g2⟩ | ⟨g, g2⟩ | ⟨g, g2⟩ <;> first | (cases g2; done) | omega
    · obtain ⟨p, q, hp, hq⟩ := hk _ e
      refine tk (fun c hc => ⟨_, zPi_ok hp hc⟩) (fun a ha hD => ?_) h
      have hs := zCmp_ok hD ha (show yV ρ (.inl 0) (.int 0) from ⟨by decide, rfl⟩)
      rcases zBr_t hs e with ⟨g, g2⟩ | ⟨g, g2⟩ | ⟨g, g2⟩ <;> first | (cases g2; done) | omega
  rcases zS2 h with ⟨n, rfl, h⟩ | ⟨z, rfl, h⟩
  · skip
    rcases zBi h with ⟨h1, h⟩ | ⟨h1, h⟩
    · have h1 := zle0_f h1
      refine nt (fun c hc => ⟨_, hc.2⟩) (fun a ha hD => ?_) h
      obtain ⟨hm, ea⟩ := ha
      injection ea with ea
      rw [i32s hm ea, zZ_eq, i32_0]
      split <;> omega
    · have h1 := zle0_t h1
      refine tk (fun c hc => ⟨_, hc.2⟩) (fun a ha hD => ?_) h
      obtain ⟨hm, ea⟩ := ha
      injection ea with ea
      rw [i32s hm ea, zZ_eq, i32_0]
      split <;> omega
  · exact slow h
theorem zs_ic_le {nx0 t : Nat} (ht : t ∈ T) : zS ρ T (nx0 + 3) K (fun lv st w => pIf2 nx0 [t] lv st w (fun x y => decide (x ≤ y))) (zq_ic_le t) := by
  intro kn E L S W v h
  obtain ⟨y, S, rfl, h⟩ := zL0 h
  obtain ⟨x, S, rfl, h⟩ := zL0 h
  have tk : (∀ c, yV ρ x c → ∃ a, c = .int a) → (∀ c, yV ρ y c → ∃ b, c = .int b) → (∀ a b : Int32, yV ρ x (.int a) → yV ρ y (.int b) → okD ρ W.1 → ((a.toInt - b.toInt) ≤ 0)) → E.1 t L S W = some v → zOut ρ T (nx0 + 3) K (fun lv st w => pIf2 nx0 [t] lv st w (fun x y => decide (x ≤ y))) kn E L (y :: x :: S) W v := by
    intro ix iy H h
    refine .inr (.inl ⟨t, _, _, _, ht, h, fun lv st w hL hT hW => ?_⟩)
    obtain ⟨d, st, rfl, hd, hq⟩ := yT_c hT
    clear hT
    have hT := hq
    clear hq
    obtain ⟨c, st, rfl, hc, hq⟩ := yT_c hT
    clear hT
    have hT := hq
    clear hq
    obtain ⟨a, rfl⟩ := ix c hc
    obtain ⟨b, rfl⟩ := iy d hd
    exact ⟨lv, st, w, hL, hT, hW, ps_if2_t (f := fun x y => decide (x ≤ y)) (decide_eq_true ((i32l').mpr (H a b hc hd hW.1)))⟩
  have nt : (∀ c, yV ρ x c → ∃ a, c = .int a) → (∀ c, yV ρ y c → ∃ b, c = .int b) → (∀ a b : Int32, yV ρ x (.int a) → yV ρ y (.int b) → okD ρ W.1 → ¬ ((a.toInt - b.toInt) ≤ 0)) → kn L S W = some v → zOut ρ T (nx0 + 3) K (fun lv st w => pIf2 nx0 [t] lv st w (fun x y => decide (x ≤ y))) kn E L (y :: x :: S) W v := by
    intro ix iy H h
    refine .inl ⟨_, _, _, h, fun lv st w hL hT hW => ?_⟩
    obtain ⟨d, st, rfl, hd, hq⟩ := yT_c hT
    clear hT
    have hT := hq
    clear hq
    obtain ⟨c, st, rfl, hc, hq⟩ := yT_c hT
    clear hT
    have hT := hq
    clear hq
    obtain ⟨a, rfl⟩ := ix c hc
    obtain ⟨b, rfl⟩ := iy d hd
    exact ⟨lv, st, w, hL, hT, hW, ps_if2_f (f := fun x y => decide (x ≤ y)) (decide_eq_false (mt (i32l').mp (H a b hc hd hW.1)))⟩
  have slow : zSl (zBr (true, true, false) (zCmp W.1 x (y))) (kn L S W) (E.1 t L S W) = some v → zOut ρ T (nx0 + 3) K (fun lv st w => pIf2 nx0 [t] lv st w (fun x y => decide (x ≤ y))) kn E L (y :: x :: S) W v := by
    intro h
    have hk : ∀ s, zBr (true, true, false) (zCmp W.1 x (y)) = some s → ∃ p q, zPi x = some p ∧ zPi (y) = some q := by
      intro s e
      unfold zCmp at e
      split at e
      · rename_i p q hp hq
        exact ⟨p, q, hp, hq⟩
      · cases e
    rcases zSl_ok h with ⟨e, h⟩ | ⟨e, h⟩
    · obtain ⟨p, q, hp, hq⟩ := hk _ e
      refine nt (fun c hc => ⟨_, zPi_ok hp hc⟩) (fun c hc => ⟨_, zPi_ok hq hc⟩) (fun a b ha hb hD => ?_) h
      have hs := zCmp_ok hD ha hb
      rcases zBr_f hs e with ⟨g, g2⟩ | ⟨g, g2⟩ | ⟨g, g2⟩ <;> first | (cases g2; done) | omega
    · obtain ⟨p, q, hp, hq⟩ := hk _ e
      refine tk (fun c hc => ⟨_, zPi_ok hp hc⟩) (fun c hc => ⟨_, zPi_ok hq hc⟩) (fun a b ha hb hD => ?_) h
      have hs := zCmp_ok hD ha hb
      rcases zBr_t hs e with ⟨g, g2⟩ | ⟨g, g2⟩ | ⟨g, g2⟩ <;> first | (cases g2; done) | omega
  rcases zS2 h with ⟨m, rfl, h⟩ | ⟨z, rfl, h⟩
  · rcases zS2 h with ⟨n, rfl, h⟩ | ⟨z, rfl, h⟩
    · skip
      rcases zBi h with ⟨h1, h⟩ | ⟨h1, h⟩
      · have h1 := zle32_f h1
        refine nt (fun c hc => ⟨_, hc.2⟩) (fun c hc => ⟨_, hc.2⟩) (fun a b ha hb hD => ?_) h
        obtain ⟨hm, ea⟩ := ha
        obtain ⟨hn, eb⟩ := hb
        injection ea with ea
        injection eb with eb
        rw [i32s hm ea, i32s hn eb, zZ_eq, zZ_eq]
        split <;> split <;> omega
      · have h1 := zle32_t h1
        refine tk (fun c hc => ⟨_, hc.2⟩) (fun c hc => ⟨_, hc.2⟩) (fun a b ha hb hD => ?_) h
        obtain ⟨hm, ea⟩ := ha
        obtain ⟨hn, eb⟩ := hb
        injection ea with ea
        injection eb with eb
        rw [i32s hm ea, i32s hn eb, zZ_eq, zZ_eq]
        split <;> split <;> omega
    · exact slow h
  · exact slow h
theorem zs_goto {t : Nat} (ht : t ∈ T) : zS ρ T nx K (fun lv st w => pGoto [t] lv st w) (zq_goto t) := fun kn E L S W v h => .inr (.inl ⟨t, _, _, _, ht, h, fun lv st w hL hT hW => ⟨lv, st, w, hL, hT, hW, rfl⟩⟩)
end LEAFB
