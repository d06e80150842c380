/-! A NEW OBJECT, as it stands between calls; it and a new sheet say the same. By hand. -/
theorem Sh.first_fx (u v : Nat) : Sh.first.2.1 u v = if (u = 3 ∧ v = 0) ∨ (u = 0 ∧ v = 3) then 2 else if (u = 2 ∧ v = 3) ∨ (u = 3 ∧ v = 2) then 2 else if (u = 1 ∧ v = 2) ∨ (u = 2 ∧ v = 1) then 2 else if (u = 0 ∧ v = 1) ∨ (u = 1 ∧ v = 0) then 2 else 0 := by
  have e : ∀ (X : Sh) (p : Nat) (t : Option (Int × Int × Int)), (X.uP p t).2.1 = X.2.1 := fun _ _ _ => rfl
  unfold Sh.first
  rw [Sh.fixes_at, e, Sh.fixes_at, e, Sh.fixes_at, e, Sh.fixes_at, e]
theorem Sh.first_pt (k : Nat) : Sh.first.1 k = if k = 3 then some (-1000, 1000, 0) else if k = 2 then some (1000, 1000, 0) else if k = 1 then some (1000, -1000, 0) else if k = 0 then some (-1000, -1000, 0) else none := by
  have e : ∀ (X : Sh) (p : Nat) (t : Option (Int × Int × Int)) (k : Nat), (X.uP p t).1 k = if k = p then t else X.1 k := fun _ _ _ _ => rfl
  unfold Sh.first
  rw [Sh.fixes_1, e, Sh.fixes_1, e, Sh.fixes_1, e, Sh.fixes_1, e]
theorem Rel.first {S : St} (hh : ∀ k : Nat, bt S.th k = decide (k < 4)) (hx : ∀ j : Nat, S.xs j = (if j = 3 then -1000 else if j = 2 then 1000 else if j = 1 then 1000 else if j = 0 then -1000 else 0)) (hy : ∀ j : Nat, S.ys j = (if j = 3 then 1000 else if j = 2 then 1000 else if j = 1 then -1000 else if j = 0 then -1000 else 0)) (hb : ∀ u v : Nat, bt (S.fx u) v = (((((false || (decide (u = 0 ∧ v = 1) || decide (u = 1 ∧ v = 0))) || (decide (u = 1 ∧ v = 2) || decide (u = 2 ∧ v = 1))) || (decide (u = 2 ∧ v = 3) || decide (u = 3 ∧ v = 2)))) || (decide (u = 3 ∧ v = 0) || decide (u = 0 ∧ v = 3)))) (hs : S.hs = fun _ => 0) (hn : S.hn = 0) (hg : S.g = 313) : Rel S Sh.first := by
  have has : ∀ k : Nat, S.has k ↔ k < 4 := fun k => by unfold St.has; rw [hh k]; exact decide_eq_true_iff
  have bnd : ∀ u v : Nat, S.bound u v ↔ eU 0 1 u v ∨ eU 1 2 u v ∨ eU 2 3 u v ∨ eU 3 0 u v := fun u v => by
    unfold St.bound
    rw [hb]
    simp only [Bool.or_eq_true, decide_eq_true_eq, Bool.false_or]
    grind
  have c0 : ∀ k : Nat, k < 4 → k = 0 ∨ k = 1 ∨ k = 2 ∨ k = 3 := fun k hk => by omega
  refine ⟨fun k hk => ?_, fun k hk sk => ?_, fun u v hu hv => ?_, by rw [hn]; rfl, by rw [hg]; rfl⟩
  · rw [has k, Sh.first_pt]
    by_cases h4 : k < 4
    · rcases c0 k h4 with rfl | rfl | rfl | rfl <;> exact ⟨fun _ => h4, fun _ => rfl⟩
    · rw [if_neg (by omega), if_neg (by omega), if_neg (by omega), if_neg (by omega)]
      exact ⟨fun z => (by cases z), fun z => absurd z h4⟩
  · rw [hx k, hy k, hs]
    unfold Sh.cx Sh.cy Sh.cz
    rw [Sh.first_pt]
    rcases c0 k ((has k).mp sk) with rfl | rfl | rfl | rfl <;> exact ⟨rfl, rfl, rfl⟩
  · rw [Sh.first_fx]
    have os : ∀ a b : Nat, S.onside a b ↔ os2 (S.xs a) (S.ys a) (S.xs b) (S.ys b) := fun a b => Iff.rfl
    have x0 : S.xs 0 = -1000 ∧ S.ys 0 = -1000 := ⟨by rw [hx]; rfl, by rw [hy]; rfl⟩
    have x1 : S.xs 1 = 1000 ∧ S.ys 1 = -1000 := ⟨by rw [hx]; rfl, by rw [hy]; rfl⟩
    have x2 : S.xs 2 = 1000 ∧ S.ys 2 = 1000 := ⟨by rw [hx]; rfl, by rw [hy]; rfl⟩
    have x3 : S.xs 3 = -1000 ∧ S.ys 3 = 1000 := ⟨by rw [hx]; rfl, by rw [hy]; rfl⟩
    have o01 : S.onside 0 1 := by rw [os, x0.1, x0.2, x1.1, x1.2]; exact Or.inl ⟨rfl, rfl, by decide⟩
    have o12 : S.onside 1 2 := by rw [os, x1.1, x1.2, x2.1, x2.2]; exact Or.inr (Or.inl ⟨rfl, rfl, by decide⟩)
    have o23 : S.onside 2 3 := by rw [os, x2.1, x2.2, x3.1, x3.2]; exact Or.inr (Or.inr (Or.inl ⟨rfl, rfl, by decide⟩))
    have o30 : S.onside 3 0 := by rw [os, x3.1, x3.2, x0.1, x0.2]; exact Or.inr (Or.inr (Or.inr ⟨rfl, rfl, by decide⟩))
    symm
    by_cases d1 : (u = 3 ∧ v = 0) ∨ (u = 0 ∧ v = 3)
    · rw [if_pos d1, St.how_2, bnd]
      refine ⟨Or.inr (Or.inr (Or.inr ?_)), ?_⟩
      · rcases d1 with ⟨rfl, rfl⟩ | ⟨rfl, rfl⟩
        · exact Or.inl ⟨rfl, rfl⟩
        · exact Or.inr ⟨rfl, rfl⟩
      · rcases d1 with ⟨rfl, rfl⟩ | ⟨rfl, rfl⟩
        · exact Or.inl o30
        · exact Or.inr o30
    · rw [if_neg d1]
      by_cases d2 : (u = 2 ∧ v = 3) ∨ (u = 3 ∧ v = 2)
      · rw [if_pos d2, St.how_2, bnd]
        refine ⟨Or.inr (Or.inr (Or.inl ?_)), ?_⟩
        · rcases d2 with ⟨rfl, rfl⟩ | ⟨rfl, rfl⟩
          · exact Or.inl ⟨rfl, rfl⟩
          · exact Or.inr ⟨rfl, rfl⟩
        · rcases d2 with ⟨rfl, rfl⟩ | ⟨rfl, rfl⟩
          · exact Or.inl o23
          · exact Or.inr o23
      · rw [if_neg d2]
        by_cases d3 : (u = 1 ∧ v = 2) ∨ (u = 2 ∧ v = 1)
        · rw [if_pos d3, St.how_2, bnd]
          refine ⟨Or.inr (Or.inl ?_), ?_⟩
          · rcases d3 with ⟨rfl, rfl⟩ | ⟨rfl, rfl⟩
            · exact Or.inl ⟨rfl, rfl⟩
            · exact Or.inr ⟨rfl, rfl⟩
          · rcases d3 with ⟨rfl, rfl⟩ | ⟨rfl, rfl⟩
            · exact Or.inl o12
            · exact Or.inr o12
        · rw [if_neg d3]
          by_cases d4 : (u = 0 ∧ v = 1) ∨ (u = 1 ∧ v = 0)
          · rw [if_pos d4, St.how_2, bnd]
            refine ⟨Or.inl ?_, ?_⟩
            · rcases d4 with ⟨rfl, rfl⟩ | ⟨rfl, rfl⟩
              · exact Or.inl ⟨rfl, rfl⟩
              · exact Or.inr ⟨rfl, rfl⟩
            · rcases d4 with ⟨rfl, rfl⟩ | ⟨rfl, rfl⟩
              · exact Or.inl o01
              · exact Or.inr o01
          · rw [if_neg d4, St.how_0, bnd]
            rintro (z | z | z | z)
            · exact d4 z
            · exact d3 z
            · exact d2 z
            · exact d1 z
theorem keeps_nil (f : Nat → Int) (g : Nat → Int64) : keeps f g [] := fun k K h => by simp at h
theorem w_new {pre : pW} {b : Nat} (hb : pre.length = b) : qC 86 [.ref b] (pre ++ nO1 b) (fun r w' => r = none ∧ ∃ S : St, Rel S Sh.first ∧ OB pre [] b S [] [] S w') := by
  refine c_new0 hb ?_
  rw [nP_eq, ← List.append_assoc]
  refine pe_go (pc := 111) rfl (s_aload_n rfl) ?_
  refine pe_go (pc := 112) rfl (s_getf (v := .ref (b + 1)) (gO hb) rfl) ?_
  refine pe_callE rfl (s_invV rfl (gA0 (oC_len hb) (mB_0 _ _ _)) rfl rfl) (c_start (oC_len hb) St.zero (fun f hf => ?_) ⟨fun j hj => ⟨Int.le_refl 0, (by decide : (0 : Int) < 40)⟩, fun j hj => ⟨Int.le_refl 0, (by decide : (0 : Int) < 40)⟩⟩) ?_
  · have hN := St.st2_New hf
    refine ⟨hN.1, fun li => ?_⟩
    have hcg : (St.zero.st2 f).cong ((St.zero.st2 f).u_li li) := ⟨by unfold St.inB; rw [St.uli_xs9, St.uli_ys9]; exact hN.1, fun p _ => by unfold St.has; rw [St.uli_th9], fun p _ _ => by rw [St.uli_xs9, St.uli_ys9]; exact ⟨rfl, rfl⟩, fun e _ => by rw [St.uli_ap9], fun u v _ _ => by unfold St.bound; rw [St.uli_fx9]⟩
    exact St.Msh_okL (St.cong_Msh hcg (St.New_Msh hN)) (St.Cor_eq (St.uli_xs9 _ _) (St.uli_ys9 _ _) (St.uli_th9 _ _) hN.2.1)
  · rintro _ _ ⟨f, li, hf, hli, rfl, ow, co, en, ne, tn, ec, hE, hT, rfl⟩
    obtain ⟨g1, g2, g3⟩ := St.first_ok hf hli
    have hOk := St.Ok_of g1 g2 g3 hE hT
    have hR : Rel (((St.zero.st2 f).u_li li).ul ow co en ne tn ec) Sh.first := by
      refine Rel.first (fun k => ?_) (fun j => ?_) (fun j => ?_) (fun u v => ?_) ?_ ?_ ?_
      · rw [St.ul_th, St.uli_th9]; exact St.st2_has f k
      · rw [St.ul_xs, St.uli_xs9]; exact St.st2_x f j
      · rw [St.ul_ys, St.uli_ys9]; exact St.st2_y f j
      · rw [St.ul_fx, St.uli_fx9]; exact St.st2_bd f u v
      · rw [St.ul_hs]; exact St.st2_hs9 f li
      · rw [St.ul_hn]; exact St.st2_hn9 f li
      · rw [St.ul_g]; exact St.st2_g9 f li
    generalize ((St.zero.st2 f).u_li li).ul ow co en ne tn ec = S at *
    refine pe_go (pc := 118) rfl (s_aload_n rfl) ?_
    refine pe_go (pc := 119) rfl (s_getf (v := .ref (b + 1 + 37)) (gO hb) rfl) ?_
    refine pe_go (pc := 122) rfl (s_aload_n rfl) ?_
    refine pe_go (pc := 123) rfl (s_getf (v := .ref (b + 1)) (gO hb) rfl) ?_
    refine pe_call rfl (s_invV rfl (gA (oC_len hb) oX_Q) rfl rfl) (c_keepTopQ hb S (k := 0) (by decide)) ?_
    exact pe_ret rfl s_retv ⟨rfl, S, hR, hOk, fun J hJ => (by cases hJ), (by decide), fun J hJ => (by simp at hJ; rw [hJ]; exact hOk), (by decide), fun _ => 0, fun _ => 0, _, _, fun _ => 0, keeps_nil _ _, keeps_top (keeps_nil (fun _ => 0) (fun _ => 0)) S, rfl⟩
