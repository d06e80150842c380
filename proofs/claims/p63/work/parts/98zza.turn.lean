/-! THE LAW: one turn: which case it is. Rows laid by program (wip/p63/wk.py, hw.py, lawcase.py, mk98zza.py). -/
theorem ptN_loose {S : St} {p : Int} (hp : ptN p) : (∃ p9 : Nat, p9 < 40 ∧ p = (p9 : Int) ∧ S.loose p9) ∨ (∀ p9 : Nat, p = (p9 : Int) → ¬ S.loose p9) := by
  rcases hp with rfl | ⟨p9, hp9, rfl⟩
  · exact Or.inr (fun p9 e => by omega)
  · by_cases h : S.loose p9
    · exact Or.inl ⟨p9, hp9, rfl, h⟩
    · exact Or.inr (fun p8 e z => h (by rw [show p9 = p8 by omega]; exact z))
theorem l_turn1 {w : pW} {b n0 : Nat} (hbn : b + 57 ≤ n0) {S : St} {L M : List St} {K : St} (hk : obk w b S L M K) {c : Nat} {X : Sh} (hu : shAt w (fun i => n0 ≤ i) (fun i => ¬ inO b i) c X) (hR : Rel S X) (hlw : n0 ≤ w.length) {k n ws aw s : Nat} {x y px py grid what : Int} {Φ : Option Value → pW → Prop} {p q : Int} (hp : ptN p) (hq : ptN q) (hx0 : 0 ≤ x ∧ x < 2147483648) (hy0 : 0 ≤ y ∧ y < 2147483648) (hwh : 0 ≤ what ∧ what < 32) (sx : sm px) (sy : sm py) (hin : inSq px py) {Xw : Sh} (hw : shAt w (fun i => ¬ inO b i ∧ i < n0) (fun i => ¬ inO b i ∧ i < n0) aw Xw) (hwn : aw < n0) (hwb : ¬ inO b aw) {wf : Nat → Option Nat} (hws : w[ws]? = some (.inl (5, 40, rfs wf))) (hwsb : ¬ inO b ws) (hn : n = L.length) (hL : L.length ≤ 20) (hwf : ∀ i : Nat, i < L.length → ∃ a2 : Nat, wf i = some a2) (KKd : ∀ (w' : pW) (S' : St) (X' : Sh), obk w' b S' (pshL S L) M K → Rel S' X' → shAt w' (fun i => n0 ≤ i) (fun i => ¬ inO b i) c X' → agr (fun i => inO b i ∨ n0 ≤ i) w w' → gro 2000 (2 * pwsz (nP 0) + 12000) w w' → qE 158 (1559, [(9, .int (iI 1)), (8, .ref c), (5, .int (iI (k : Int))), (4, .int (iI (n : Int))), (3, .ref ws), (2, .ref aw), (1, .ref b), (0, .ref s)], [], w') Φ) (KKn : ∀ w' : pW, obk w' b S L M K → agr (fun i => inO b i ∨ n0 ≤ i) w w' → gro 2000 (2 * pwsz (nP 0) + 12000) w w' → qE 158 (1559, [(9, .int (iI 0)), (8, .ref c), (5, .int (iI (k : Int))), (4, .int (iI (n : Int))), (3, .ref ws), (2, .ref aw), (1, .ref b), (0, .ref s)], [], w') Φ) (KKt : ∀ (w' : pW) (g9 : Int), (0 ≤ g9 ∧ g9 < 30047) → obk w' b (S.u_g g9) L M K → shAt w' (fun i => ¬ inO b i ∧ i < n0) (fun i => ¬ inO b i ∧ i < n0) aw (Xw.uG g9) → agr (fun i => (inO b i ∨ n0 ≤ i) ∨ i = aw) w w' → gro 2000 (2 * pwsz (nP 0) + 12000) w w' → qE 158 (1559, [(9, .int (iI 0)), (8, .ref c), (5, .int (iI (k : Int))), (4, .int (iI (n : Int))), (3, .ref ws), (2, .ref aw), (1, .ref b), (0, .ref s)], [], w') Φ) (KKu : ∀ (L' : List St) (J : St) (m a2 : Nat), L = L' ++ [J] → m = L'.length → n = m + 1 → wf m = some a2 → ∀ (w' : pW) (R : St), J.alike R → obk w' b R L' M K → chg b w w' → qE 158 (1559, [(9, .int (iI 0)), (8, .ref c), (5, .int (iI (k : Int))), (4, .int (iI (m : Int))), (3, .ref ws), (2, .ref a2), (1, .ref b), (0, .ref s)], [], w') Φ) : qE 158 (253, [(16, .int (iI 1)), (15, .int (iI what)), (14, .int (iI q)), (13, .int (iI p)), (12, .int (iI py)), (11, .int (iI px)), (10, .int (iI grid)), (9, .int (iI 1)), (8, .ref c), (7, .int (iI y)), (6, .int (iI x)), (5, .int (iI (k : Int))), (4, .int (iI (n : Int))), (3, .ref ws), (2, .ref aw), (1, .ref b), (0, .ref s)], [], w) Φ := by
  refine pe_go (pc := 253) rfl (s_iload rfl) ?_
  refine pe_go (pc := 255) rfl (s_bipush (z := 11) rfl) ?_
  by_cases c1 : 11 ≤ what
  · skip
    refine pe_go rfl (s_icmp_ge_t ⟨by omega, by omega⟩ ⟨by decide, by decide⟩ c1) ?_
    refine pe_go (pc := 338) rfl (s_iload rfl) ?_
    refine pe_go (pc := 340) rfl (s_bipush (z := 13) rfl) ?_
    by_cases c2 : 13 ≤ what
    · skip
      refine pe_go rfl (s_icmp_ge_t ⟨by omega, by omega⟩ ⟨by decide, by decide⟩ c2) ?_
      refine pe_go (pc := 384) rfl (s_iload rfl) ?_
      refine pe_go (pc := 386) rfl (s_bipush (z := 16) rfl) ?_
      by_cases c3 : 16 ≤ what
      · skip
        refine pe_go rfl (s_icmp_ge_t ⟨by omega, by omega⟩ ⟨by decide, by decide⟩ c3) ?_
        refine pe_go (pc := 484) rfl (s_iload rfl) ?_
        refine pe_go (pc := 486) rfl (s_bipush (z := 22) rfl) ?_
        by_cases c4 : 22 ≤ what
        · skip
          refine pe_go rfl (s_icmp_ge_t ⟨by omega, by omega⟩ ⟨by decide, by decide⟩ c4) ?_
          refine pe_go (pc := 596) rfl (s_iload rfl) ?_
          refine pe_go (pc := 598) rfl (s_bipush (z := 24) rfl) ?_
          by_cases c5 : 24 ≤ what
          · skip
            refine pe_go rfl (s_icmp_ge_t ⟨by omega, by omega⟩ ⟨by decide, by decide⟩ c5) ?_
            refine pe_go (pc := 668) rfl (s_iload rfl) ?_
            refine pe_go (pc := 670) rfl (s_bipush (z := 26) rfl) ?_
            by_cases c6 : 26 ≤ what
            · skip
              refine pe_go rfl (s_icmp_ge_t ⟨by omega, by omega⟩ ⟨by decide, by decide⟩ c6) ?_
              refine pe_go (pc := 774) rfl (s_iload rfl) ?_
              refine pe_go (pc := 776) rfl (s_bipush (z := 26) rfl) ?_
              by_cases c7 : what = 26
              · skip
                refine pe_go rfl (s_icmp_ne_f ⟨by omega, by omega⟩ ⟨by decide, by decide⟩ (fun e => e c7)) ?_
                refine pe_go (pc := 781) rfl (s_iload rfl) ?_
                refine pe_go (pc := 783) rfl (s_bipush (z := 32) rfl) ?_
                refine pe_go (pc := 785) rfl (s_idiv ⟨by omega, by omega⟩ ⟨by decide, by decide⟩ (by decide) (by omega) (Int.tdiv_eq_ediv_of_nonneg (by omega))) ?_
                refine pe_go (pc := 786) rfl (s_sipush (z := 20001) rfl) ?_
                refine pe_go (pc := 789) rfl (s_irem ⟨by omega, by omega⟩ ⟨by decide, by decide⟩ (by decide) (by omega) (Int.tmod_eq_emod_of_nonneg (by omega))) ?_
                refine pe_go (pc := 790) rfl (s_sipush (z := 10000) rfl) ?_
                refine pe_go (pc := 793) rfl s_isub ?_
                refine pe_go (pc := 794) rfl (s_istore (lv' := [(17, .int (iI (((x / 32) % 20001) - 10000))), (16, .int (iI 1)), (15, .int (iI what)), (14, .int (iI q)), (13, .int (iI p)), (12, .int (iI py)), (11, .int (iI px)), (10, .int (iI grid)), (9, .int (iI 1)), (8, .ref c), (7, .int (iI y)), (6, .int (iI x)), (5, .int (iI (k : Int))), (4, .int (iI (n : Int))), (3, .ref ws), (2, .ref aw), (1, .ref b), (0, .ref s)]) rfl) ?_
                obtain ⟨h9, eh9⟩ : ∃ h9 : Int, ((x / 32) % 20001) - 10000 = h9 := ⟨_, rfl⟩
                rw [eh9]
                refine pe_few (lv := [(17, .int (iI h9)), (16, .int (iI 1)), (15, .int (iI what)), (14, .int (iI q)), (13, .int (iI p)), (12, .int (iI py)), (11, .int (iI px)), (10, .int (iI grid)), (9, .int (iI 1)), (8, .ref c), (7, .int (iI y)), (6, .int (iI x)), (5, .int (iI (k : Int))), (4, .int (iI (n : Int))), (3, .ref ws), (2, .ref aw), (1, .ref b), (0, .ref s)]) rfl rfl (by intro q hq; simp only [List.mem_cons, List.not_mem_nil, or_false] at hq; rcases hq with rfl | rfl | rfl | rfl | rfl | rfl | rfl | rfl | rfl | rfl | rfl | rfl | rfl | rfl | rfl | rfl | rfl | rfl <;> rfl) ?_
                have hh9 : sm h9 := ⟨by omega, by omega⟩
                rcases hp with rfl | ⟨p9, hp9, rfl⟩
                · exact l_case7a hbn hk hu hR hlw hh9 KKn
                by_cases sp : S.has p9
                rotate_left
                · exact l_case7b hbn hk hu hR hlw hp9 hh9 sp KKn
                by_cases ho9 : -9999 ≤ h9 ∧ h9 ≤ 9999
                · exact l_case7d hbn hk hu hR hlw hp9 hh9 sp ho9.1 ho9.2 KKd
                · exact l_case7c hbn hk hu hR hlw hp9 hh9 sp ho9 KKn
              · skip
                refine pe_go rfl (s_icmp_ne_t ⟨by omega, by omega⟩ ⟨by decide, by decide⟩ c7) ?_
                refine pe_go (pc := 900) rfl (s_iload rfl) ?_
                refine pe_go (pc := 902) rfl (s_bipush (z := 27) rfl) ?_
                by_cases c8 : what = 27
                · skip
                  refine pe_go rfl (s_icmp_ne_f ⟨by omega, by omega⟩ ⟨by decide, by decide⟩ (fun e => e c8)) ?_
                  refine pe_few (lv := [(16, .int (iI 1)), (15, .int (iI what)), (14, .int (iI q)), (13, .int (iI p)), (12, .int (iI py)), (11, .int (iI px)), (10, .int (iI grid)), (9, .int (iI 1)), (8, .ref c), (7, .int (iI y)), (6, .int (iI x)), (5, .int (iI (k : Int))), (4, .int (iI (n : Int))), (3, .ref ws), (2, .ref aw), (1, .ref b), (0, .ref s)]) rfl rfl (by intro q hq; simp only [List.mem_cons, List.not_mem_nil, or_false] at hq; rcases hq with rfl | rfl | rfl | rfl | rfl | rfl | rfl | rfl | rfl | rfl | rfl | rfl | rfl | rfl | rfl | rfl | rfl <;> rfl) ?_
                  exact l_case8 hbn hk hu hR hlw hy0 KKd
                · skip
                  refine pe_go rfl (s_icmp_ne_t ⟨by omega, by omega⟩ ⟨by decide, by decide⟩ c8) ?_
                  refine pe_go (pc := 935) rfl (s_iload rfl) ?_
                  refine pe_go (pc := 937) rfl (s_bipush (z := 28) rfl) ?_
                  by_cases c9 : what = 28
                  · skip
                    refine pe_go rfl (s_icmp_ne_f ⟨by omega, by omega⟩ ⟨by decide, by decide⟩ (fun e => e c9)) ?_
                    refine pe_few (lv := [(16, .int (iI 1)), (15, .int (iI what)), (14, .int (iI q)), (13, .int (iI p)), (12, .int (iI py)), (11, .int (iI px)), (10, .int (iI grid)), (9, .int (iI 1)), (8, .ref c), (7, .int (iI y)), (6, .int (iI x)), (5, .int (iI (k : Int))), (4, .int (iI (n : Int))), (3, .ref ws), (2, .ref aw), (1, .ref b), (0, .ref s)]) rfl rfl (by intro q hq; simp only [List.mem_cons, List.not_mem_nil, or_false] at hq; rcases hq with rfl | rfl | rfl | rfl | rfl | rfl | rfl | rfl | rfl | rfl | rfl | rfl | rfl | rfl | rfl | rfl | rfl <;> rfl) ?_
                    exact l_case9 hbn hk hu hR hlw KKd
                  · skip
                    refine pe_go rfl (s_icmp_ne_t ⟨by omega, by omega⟩ ⟨by decide, by decide⟩ c9) ?_
                    refine pe_go (pc := 1189) rfl (s_iload rfl) ?_
                    refine pe_go (pc := 1191) rfl (s_bipush (z := 29) rfl) ?_
                    by_cases c10 : what = 29
                    · skip
                      refine pe_go rfl (s_icmp_ne_f ⟨by omega, by omega⟩ ⟨by decide, by decide⟩ (fun e => e c10)) ?_
                      refine pe_go (pc := 1196) rfl (s_iload rfl) ?_
                      refine pe_go (pc := 1198) rfl (s_bipush (z := 32) rfl) ?_
                      refine pe_go (pc := 1200) rfl (s_idiv ⟨by omega, by omega⟩ ⟨by decide, by decide⟩ (by decide) (by omega) (Int.tdiv_eq_ediv_of_nonneg (by omega))) ?_
                      refine pe_go (pc := 1201) rfl (s_iconst (z := 3) rfl) ?_
                      refine pe_go (pc := 1202) rfl (s_irem ⟨by omega, by omega⟩ ⟨by decide, by decide⟩ (by decide) (by omega) (Int.tmod_eq_emod_of_nonneg (by omega))) ?_
                      by_cases c11 : ((x / 32) % 3) = 0
                      · skip
                        refine pe_go rfl (s_if_ne_f ⟨by omega, by omega⟩ (fun e => e c11)) ?_
                        refine pe_few (lv := [(16, .int (iI 1)), (15, .int (iI what)), (14, .int (iI q)), (13, .int (iI p)), (12, .int (iI py)), (11, .int (iI px)), (10, .int (iI grid)), (9, .int (iI 1)), (8, .ref c), (7, .int (iI y)), (6, .int (iI x)), (5, .int (iI (k : Int))), (4, .int (iI (n : Int))), (3, .ref ws), (2, .ref aw), (1, .ref b), (0, .ref s)]) rfl rfl (by intro q hq; simp only [List.mem_cons, List.not_mem_nil, or_false] at hq; rcases hq with rfl | rfl | rfl | rfl | rfl | rfl | rfl | rfl | rfl | rfl | rfl | rfl | rfl | rfl | rfl | rfl | rfl <;> rfl) ?_
                        exact l_case10_1 hbn hk hu hR hlw sx sy hin KKd KKn
                      · skip
                        refine pe_go rfl (s_if_ne_t ⟨by omega, by omega⟩ c11) ?_
                        refine pe_go (pc := 1342) rfl (s_iload rfl) ?_
                        refine pe_go (pc := 1344) rfl (s_bipush (z := 29) rfl) ?_
                        refine pe_go rfl (s_icmp_ne_f ⟨by omega, by omega⟩ ⟨by decide, by decide⟩ (fun e => e c10)) ?_
                        refine pe_go (pc := 1349) rfl (s_iload rfl) ?_
                        refine pe_go (pc := 1351) rfl (s_bipush (z := 32) rfl) ?_
                        refine pe_go (pc := 1353) rfl (s_idiv ⟨by omega, by omega⟩ ⟨by decide, by decide⟩ (by decide) (by omega) (Int.tdiv_eq_ediv_of_nonneg (by omega))) ?_
                        refine pe_go (pc := 1354) rfl (s_iconst (z := 3) rfl) ?_
                        refine pe_go (pc := 1355) rfl (s_irem ⟨by omega, by omega⟩ ⟨by decide, by decide⟩ (by decide) (by omega) (Int.tmod_eq_emod_of_nonneg (by omega))) ?_
                        refine pe_go (pc := 1356) rfl (s_iconst (z := 1) rfl) ?_
                        by_cases c12 : ((x / 32) % 3) = 1
                        · skip
                          refine pe_go rfl (s_icmp_ne_f ⟨by omega, by omega⟩ ⟨by decide, by decide⟩ (fun e => e c12)) ?_
                          refine pe_few (lv := [(16, .int (iI 1)), (15, .int (iI what)), (14, .int (iI q)), (13, .int (iI p)), (12, .int (iI py)), (11, .int (iI px)), (10, .int (iI grid)), (9, .int (iI 1)), (8, .ref c), (7, .int (iI y)), (6, .int (iI x)), (5, .int (iI (k : Int))), (4, .int (iI (n : Int))), (3, .ref ws), (2, .ref aw), (1, .ref b), (0, .ref s)]) rfl rfl (by intro q hq; simp only [List.mem_cons, List.not_mem_nil, or_false] at hq; rcases hq with rfl | rfl | rfl | rfl | rfl | rfl | rfl | rfl | rfl | rfl | rfl | rfl | rfl | rfl | rfl | rfl | rfl <;> rfl) ?_
                          by_cases h0 : 0 < X.2.2.1
                          · exact l_case11_1 hbn hk hu hR hlw h0 KKd
                          · exact l_case11_0 hbn hk hu hR hlw h0 KKn
                        · skip
                          refine pe_go rfl (s_icmp_ne_t ⟨by omega, by omega⟩ ⟨by decide, by decide⟩ c12) ?_
                          refine pe_go (pc := 1459) rfl (s_iload rfl) ?_
                          refine pe_go (pc := 1461) rfl (s_bipush (z := 29) rfl) ?_
                          refine pe_go rfl (s_icmp_ne_f ⟨by omega, by omega⟩ ⟨by decide, by decide⟩ (fun e => e c10)) ?_
                          refine pe_few (lv := [(16, .int (iI 1)), (15, .int (iI what)), (14, .int (iI q)), (13, .int (iI p)), (12, .int (iI py)), (11, .int (iI px)), (10, .int (iI grid)), (9, .int (iI 1)), (8, .ref c), (7, .int (iI y)), (6, .int (iI x)), (5, .int (iI (k : Int))), (4, .int (iI (n : Int))), (3, .ref ws), (2, .ref aw), (1, .ref b), (0, .ref s)]) rfl rfl (by intro q hq; simp only [List.mem_cons, List.not_mem_nil, or_false] at hq; rcases hq with rfl | rfl | rfl | rfl | rfl | rfl | rfl | rfl | rfl | rfl | rfl | rfl | rfl | rfl | rfl | rfl | rfl <;> rfl) ?_
                          exact l_case12 hbn hk hu hR hlw hy0 hw hwn hwb KKt
                    · skip
                      refine pe_go rfl (s_icmp_ne_t ⟨by omega, by omega⟩ ⟨by decide, by decide⟩ c10) ?_
                      refine pe_go (pc := 1342) rfl (s_iload rfl) ?_
                      refine pe_go (pc := 1344) rfl (s_bipush (z := 29) rfl) ?_
                      refine pe_go rfl (s_icmp_ne_t ⟨by omega, by omega⟩ ⟨by decide, by decide⟩ c10) ?_
                      refine pe_go (pc := 1459) rfl (s_iload rfl) ?_
                      refine pe_go (pc := 1461) rfl (s_bipush (z := 29) rfl) ?_
                      refine pe_go rfl (s_icmp_ne_t ⟨by omega, by omega⟩ ⟨by decide, by decide⟩ c10) ?_
                      refine pe_few (lv := [(16, .int (iI 1)), (15, .int (iI what)), (14, .int (iI q)), (13, .int (iI p)), (12, .int (iI py)), (11, .int (iI px)), (10, .int (iI grid)), (9, .int (iI 1)), (8, .ref c), (7, .int (iI y)), (6, .int (iI x)), (5, .int (iI (k : Int))), (4, .int (iI (n : Int))), (3, .ref ws), (2, .ref aw), (1, .ref b), (0, .ref s)]) rfl rfl (by intro q hq; simp only [List.mem_cons, List.not_mem_nil, or_false] at hq; rcases hq with rfl | rfl | rfl | rfl | rfl | rfl | rfl | rfl | rfl | rfl | rfl | rfl | rfl | rfl | rfl | rfl | rfl <;> rfl) ?_
                      rcases List.eq_nil_or_concat L with rfl | ⟨L', J, eL⟩
                      · obtain rfl : n = 0 := hn
                        exact l_case13n hk rfl (fun w9 ho9 hc9 => KKn w9 ho9 (P_chg hc9) (G_of (g_chg hc9) (by decide) (by decide)))
                      rw [List.concat_eq_append] at eL
                      subst eL
                      have hlen : (L' ++ [J]).length = L'.length + 1 := by rw [List.length_append]; rfl
                      obtain ⟨a2, ea2⟩ := hwf L'.length (by omega)
                      exact l_case13y hk rfl (hn.trans hlen) (by omega) hws hwsb ea2 (fun w9 R hr9 ho9 hc9 => KKu L' J _ a2 rfl rfl (hn.trans hlen) ea2 w9 R hr9 ho9 hc9)
            · skip
              refine pe_go rfl (s_icmp_ge_f ⟨by omega, by omega⟩ ⟨by decide, by decide⟩ c6) ?_
              refine pe_few (lv := [(16, .int (iI 1)), (15, .int (iI what)), (14, .int (iI q)), (13, .int (iI p)), (12, .int (iI py)), (11, .int (iI px)), (10, .int (iI grid)), (9, .int (iI 1)), (8, .ref c), (7, .int (iI y)), (6, .int (iI x)), (5, .int (iI (k : Int))), (4, .int (iI (n : Int))), (3, .ref ws), (2, .ref aw), (1, .ref b), (0, .ref s)]) rfl rfl (by intro q hq; simp only [List.mem_cons, List.not_mem_nil, or_false] at hq; rcases hq with rfl | rfl | rfl | rfl | rfl | rfl | rfl | rfl | rfl | rfl | rfl | rfl | rfl | rfl | rfl | rfl | rfl <;> rfl) ?_
              exact l_case6 hbn hk hu hR hlw hy0 hx0 KKd
          · skip
            refine pe_go rfl (s_icmp_ge_f ⟨by omega, by omega⟩ ⟨by decide, by decide⟩ c5) ?_
            refine pe_few (lv := [(16, .int (iI 1)), (15, .int (iI what)), (14, .int (iI q)), (13, .int (iI p)), (12, .int (iI py)), (11, .int (iI px)), (10, .int (iI grid)), (9, .int (iI 1)), (8, .ref c), (7, .int (iI y)), (6, .int (iI x)), (5, .int (iI (k : Int))), (4, .int (iI (n : Int))), (3, .ref ws), (2, .ref aw), (1, .ref b), (0, .ref s)]) rfl rfl (by intro q hq; simp only [List.mem_cons, List.not_mem_nil, or_false] at hq; rcases hq with rfl | rfl | rfl | rfl | rfl | rfl | rfl | rfl | rfl | rfl | rfl | rfl | rfl | rfl | rfl | rfl | rfl <;> rfl) ?_
            rcases hp with rfl | ⟨p9, hp9, rfl⟩
            · exact l_case5a hbn hk hu hR hlw hq KKn
            rcases hq with rfl | ⟨q9, hq9, rfl⟩
            · exact l_case5b hbn hk hu hR hlw hp9 KKn
            by_cases hw1 : S.how p9 q9 = 1
            · exact l_case5d hbn hk hu hR hlw hp9 hq9 hw1 KKd
            · exact l_case5c hbn hk hu hR hlw hp9 hq9 hw1 KKn
        · skip
          refine pe_go rfl (s_icmp_ge_f ⟨by omega, by omega⟩ ⟨by decide, by decide⟩ c4) ?_
          refine pe_few (lv := [(16, .int (iI 1)), (15, .int (iI what)), (14, .int (iI q)), (13, .int (iI p)), (12, .int (iI py)), (11, .int (iI px)), (10, .int (iI grid)), (9, .int (iI 1)), (8, .ref c), (7, .int (iI y)), (6, .int (iI x)), (5, .int (iI (k : Int))), (4, .int (iI (n : Int))), (3, .ref ws), (2, .ref aw), (1, .ref b), (0, .ref s)]) rfl rfl (by intro q hq; simp only [List.mem_cons, List.not_mem_nil, or_false] at hq; rcases hq with rfl | rfl | rfl | rfl | rfl | rfl | rfl | rfl | rfl | rfl | rfl | rfl | rfl | rfl | rfl | rfl | rfl <;> rfl) ?_
          rcases hp with rfl | ⟨p9, hp9, rfl⟩
          · exact l_case4a hbn hk hu hR hlw hq KKn
          rcases hq with rfl | ⟨q9, hq9, rfl⟩
          · exact l_case4b hbn hk hu hR hlw hp9 KKn
          by_cases hpq : p9 = q9
          · exact l_case4c hbn hk hu hR hlw hp9 hq9 hpq KKn
          by_cases sp : S.has p9
          rotate_left
          · exact l_case4d hbn hk hu hR hlw hp9 hq9 hpq sp KKn
          by_cases sq : S.has q9
          rotate_left
          · exact l_case4e hbn hk hu hR hlw hp9 hq9 hpq sp sq KKn
          by_cases hw0 : S.how p9 q9 = 0
          rotate_left
          · exact l_case4f hbn hk hu hR hlw hp9 hq9 hpq sp sq hw0 KKn
          by_cases hv : X.sees p9 q9
          · exact l_case4h hbn hk hu hR hlw hp9 hq9 hpq sp sq hw0 hv KKd
          · exact l_case4g hbn hk hu hR hlw hp9 hq9 hpq sp sq hw0 hv KKn
      · skip
        refine pe_go rfl (s_icmp_ge_f ⟨by omega, by omega⟩ ⟨by decide, by decide⟩ c3) ?_
        refine pe_few (lv := [(16, .int (iI 1)), (15, .int (iI what)), (14, .int (iI q)), (13, .int (iI p)), (12, .int (iI py)), (11, .int (iI px)), (10, .int (iI grid)), (9, .int (iI 1)), (8, .ref c), (7, .int (iI y)), (6, .int (iI x)), (5, .int (iI (k : Int))), (4, .int (iI (n : Int))), (3, .ref ws), (2, .ref aw), (1, .ref b), (0, .ref s)]) rfl rfl (by intro q hq; simp only [List.mem_cons, List.not_mem_nil, or_false] at hq; rcases hq with rfl | rfl | rfl | rfl | rfl | rfl | rfl | rfl | rfl | rfl | rfl | rfl | rfl | rfl | rfl | rfl | rfl <;> rfl) ?_
        rcases ptN_loose (S := S) hp with ⟨p9, hp9, rfl, hl⟩ | hl
        · exact l_case3y1 hbn hk hu hR hlw sx sy hp9 hl hin KKd KKn
        · exact l_case3n hbn hk hu hR hlw sx sy hp hl KKn
    · skip
      refine pe_go rfl (s_icmp_ge_f ⟨by omega, by omega⟩ ⟨by decide, by decide⟩ c2) ?_
      refine pe_few (lv := [(16, .int (iI 1)), (15, .int (iI what)), (14, .int (iI q)), (13, .int (iI p)), (12, .int (iI py)), (11, .int (iI px)), (10, .int (iI grid)), (9, .int (iI 1)), (8, .ref c), (7, .int (iI y)), (6, .int (iI x)), (5, .int (iI (k : Int))), (4, .int (iI (n : Int))), (3, .ref ws), (2, .ref aw), (1, .ref b), (0, .ref s)]) rfl rfl (by intro q hq; simp only [List.mem_cons, List.not_mem_nil, or_false] at hq; rcases hq with rfl | rfl | rfl | rfl | rfl | rfl | rfl | rfl | rfl | rfl | rfl | rfl | rfl | rfl | rfl | rfl | rfl <;> rfl) ?_
      rcases ptN_loose (S := S) hp with ⟨p9, hp9, rfl, hl⟩ | hl
      · exact l_case2y hbn hk hu hR hlw hp9 hl KKd
      · exact l_case2n hbn hk hu hR hlw hp hl KKn
  · skip
    refine pe_go rfl (s_icmp_ge_f ⟨by omega, by omega⟩ ⟨by decide, by decide⟩ c1) ?_
    refine pe_few (lv := [(16, .int (iI 1)), (15, .int (iI what)), (14, .int (iI q)), (13, .int (iI p)), (12, .int (iI py)), (11, .int (iI px)), (10, .int (iI grid)), (9, .int (iI 1)), (8, .ref c), (7, .int (iI y)), (6, .int (iI x)), (5, .int (iI (k : Int))), (4, .int (iI (n : Int))), (3, .ref ws), (2, .ref aw), (1, .ref b), (0, .ref s)]) rfl rfl (by intro q hq; simp only [List.mem_cons, List.not_mem_nil, or_false] at hq; rcases hq with rfl | rfl | rfl | rfl | rfl | rfl | rfl | rfl | rfl | rfl | rfl | rfl | rfl | rfl | rfl | rfl | rfl <;> rfl) ?_
    exact l_case1_1 hbn hk hu hR hlw sx sy hin KKd KKn
theorem l_turn0 {w : pW} {b n0 : Nat} (hbn : b + 57 ≤ n0) {S : St} {L M : List St} {K : St} (hk : obk w b S L M K) {c : Nat} {X : Sh} (hu : shAt w (fun i => n0 ≤ i) (fun i => ¬ inO b i) c X) (hR : Rel S X) (hlw : n0 ≤ w.length) {k n ws aw s : Nat} {x y px py grid what : Int} {Φ : Option Value → pW → Prop} {p q : Int} (hp : ptN p) (hq : ptN q) (hx0 : 0 ≤ x ∧ x < 2147483648) (hy0 : 0 ≤ y ∧ y < 2147483648) (hwh : 0 ≤ what ∧ what < 32) (sx : sm px) (sy : sm py) (hin : ¬ inSq px py) {Xw : Sh} (hw : shAt w (fun i => ¬ inO b i ∧ i < n0) (fun i => ¬ inO b i ∧ i < n0) aw Xw) (hwn : aw < n0) (hwb : ¬ inO b aw) {wf : Nat → Option Nat} (hws : w[ws]? = some (.inl (5, 40, rfs wf))) (hwsb : ¬ inO b ws) (hn : n = L.length) (hL : L.length ≤ 20) (hwf : ∀ i : Nat, i < L.length → ∃ a2 : Nat, wf i = some a2) (KKd : ∀ (w' : pW) (S' : St) (X' : Sh), obk w' b S' (pshL S L) M K → Rel S' X' → shAt w' (fun i => n0 ≤ i) (fun i => ¬ inO b i) c X' → agr (fun i => inO b i ∨ n0 ≤ i) w w' → gro 2000 (2 * pwsz (nP 0) + 12000) w w' → qE 158 (1559, [(9, .int (iI 1)), (8, .ref c), (5, .int (iI (k : Int))), (4, .int (iI (n : Int))), (3, .ref ws), (2, .ref aw), (1, .ref b), (0, .ref s)], [], w') Φ) (KKn : ∀ w' : pW, obk w' b S L M K → agr (fun i => inO b i ∨ n0 ≤ i) w w' → gro 2000 (2 * pwsz (nP 0) + 12000) w w' → qE 158 (1559, [(9, .int (iI 0)), (8, .ref c), (5, .int (iI (k : Int))), (4, .int (iI (n : Int))), (3, .ref ws), (2, .ref aw), (1, .ref b), (0, .ref s)], [], w') Φ) (KKt : ∀ (w' : pW) (g9 : Int), (0 ≤ g9 ∧ g9 < 30047) → obk w' b (S.u_g g9) L M K → shAt w' (fun i => ¬ inO b i ∧ i < n0) (fun i => ¬ inO b i ∧ i < n0) aw (Xw.uG g9) → agr (fun i => (inO b i ∨ n0 ≤ i) ∨ i = aw) w w' → gro 2000 (2 * pwsz (nP 0) + 12000) w w' → qE 158 (1559, [(9, .int (iI 0)), (8, .ref c), (5, .int (iI (k : Int))), (4, .int (iI (n : Int))), (3, .ref ws), (2, .ref aw), (1, .ref b), (0, .ref s)], [], w') Φ) (KKu : ∀ (L' : List St) (J : St) (m a2 : Nat), L = L' ++ [J] → m = L'.length → n = m + 1 → wf m = some a2 → ∀ (w' : pW) (R : St), J.alike R → obk w' b R L' M K → chg b w w' → qE 158 (1559, [(9, .int (iI 0)), (8, .ref c), (5, .int (iI (k : Int))), (4, .int (iI (m : Int))), (3, .ref ws), (2, .ref a2), (1, .ref b), (0, .ref s)], [], w') Φ) : qE 158 (253, [(16, .int (iI 0)), (15, .int (iI what)), (14, .int (iI q)), (13, .int (iI p)), (12, .int (iI py)), (11, .int (iI px)), (10, .int (iI grid)), (9, .int (iI 1)), (8, .ref c), (7, .int (iI y)), (6, .int (iI x)), (5, .int (iI (k : Int))), (4, .int (iI (n : Int))), (3, .ref ws), (2, .ref aw), (1, .ref b), (0, .ref s)], [], w) Φ := by
  refine pe_go (pc := 253) rfl (s_iload rfl) ?_
  refine pe_go (pc := 255) rfl (s_bipush (z := 11) rfl) ?_
  by_cases c1 : 11 ≤ what
  · skip
    refine pe_go rfl (s_icmp_ge_t ⟨by omega, by omega⟩ ⟨by decide, by decide⟩ c1) ?_
    refine pe_go (pc := 338) rfl (s_iload rfl) ?_
    refine pe_go (pc := 340) rfl (s_bipush (z := 13) rfl) ?_
    by_cases c2 : 13 ≤ what
    · skip
      refine pe_go rfl (s_icmp_ge_t ⟨by omega, by omega⟩ ⟨by decide, by decide⟩ c2) ?_
      refine pe_go (pc := 384) rfl (s_iload rfl) ?_
      refine pe_go (pc := 386) rfl (s_bipush (z := 16) rfl) ?_
      by_cases c3 : 16 ≤ what
      · skip
        refine pe_go rfl (s_icmp_ge_t ⟨by omega, by omega⟩ ⟨by decide, by decide⟩ c3) ?_
        refine pe_go (pc := 484) rfl (s_iload rfl) ?_
        refine pe_go (pc := 486) rfl (s_bipush (z := 22) rfl) ?_
        by_cases c4 : 22 ≤ what
        · skip
          refine pe_go rfl (s_icmp_ge_t ⟨by omega, by omega⟩ ⟨by decide, by decide⟩ c4) ?_
          refine pe_go (pc := 596) rfl (s_iload rfl) ?_
          refine pe_go (pc := 598) rfl (s_bipush (z := 24) rfl) ?_
          by_cases c5 : 24 ≤ what
          · skip
            refine pe_go rfl (s_icmp_ge_t ⟨by omega, by omega⟩ ⟨by decide, by decide⟩ c5) ?_
            refine pe_go (pc := 668) rfl (s_iload rfl) ?_
            refine pe_go (pc := 670) rfl (s_bipush (z := 26) rfl) ?_
            by_cases c6 : 26 ≤ what
            · skip
              refine pe_go rfl (s_icmp_ge_t ⟨by omega, by omega⟩ ⟨by decide, by decide⟩ c6) ?_
              refine pe_go (pc := 774) rfl (s_iload rfl) ?_
              refine pe_go (pc := 776) rfl (s_bipush (z := 26) rfl) ?_
              by_cases c7 : what = 26
              · skip
                refine pe_go rfl (s_icmp_ne_f ⟨by omega, by omega⟩ ⟨by decide, by decide⟩ (fun e => e c7)) ?_
                refine pe_go (pc := 781) rfl (s_iload rfl) ?_
                refine pe_go (pc := 783) rfl (s_bipush (z := 32) rfl) ?_
                refine pe_go (pc := 785) rfl (s_idiv ⟨by omega, by omega⟩ ⟨by decide, by decide⟩ (by decide) (by omega) (Int.tdiv_eq_ediv_of_nonneg (by omega))) ?_
                refine pe_go (pc := 786) rfl (s_sipush (z := 20001) rfl) ?_
                refine pe_go (pc := 789) rfl (s_irem ⟨by omega, by omega⟩ ⟨by decide, by decide⟩ (by decide) (by omega) (Int.tmod_eq_emod_of_nonneg (by omega))) ?_
                refine pe_go (pc := 790) rfl (s_sipush (z := 10000) rfl) ?_
                refine pe_go (pc := 793) rfl s_isub ?_
                refine pe_go (pc := 794) rfl (s_istore (lv' := [(17, .int (iI (((x / 32) % 20001) - 10000))), (16, .int (iI 0)), (15, .int (iI what)), (14, .int (iI q)), (13, .int (iI p)), (12, .int (iI py)), (11, .int (iI px)), (10, .int (iI grid)), (9, .int (iI 1)), (8, .ref c), (7, .int (iI y)), (6, .int (iI x)), (5, .int (iI (k : Int))), (4, .int (iI (n : Int))), (3, .ref ws), (2, .ref aw), (1, .ref b), (0, .ref s)]) rfl) ?_
                obtain ⟨h9, eh9⟩ : ∃ h9 : Int, ((x / 32) % 20001) - 10000 = h9 := ⟨_, rfl⟩
                rw [eh9]
                refine pe_few (lv := [(17, .int (iI h9)), (16, .int (iI 0)), (15, .int (iI what)), (14, .int (iI q)), (13, .int (iI p)), (12, .int (iI py)), (11, .int (iI px)), (10, .int (iI grid)), (9, .int (iI 1)), (8, .ref c), (7, .int (iI y)), (6, .int (iI x)), (5, .int (iI (k : Int))), (4, .int (iI (n : Int))), (3, .ref ws), (2, .ref aw), (1, .ref b), (0, .ref s)]) rfl rfl (by intro q hq; simp only [List.mem_cons, List.not_mem_nil, or_false] at hq; rcases hq with rfl | rfl | rfl | rfl | rfl | rfl | rfl | rfl | rfl | rfl | rfl | rfl | rfl | rfl | rfl | rfl | rfl | rfl <;> rfl) ?_
                have hh9 : sm h9 := ⟨by omega, by omega⟩
                rcases hp with rfl | ⟨p9, hp9, rfl⟩
                · exact l_case7a hbn hk hu hR hlw hh9 KKn
                by_cases sp : S.has p9
                rotate_left
                · exact l_case7b hbn hk hu hR hlw hp9 hh9 sp KKn
                by_cases ho9 : -9999 ≤ h9 ∧ h9 ≤ 9999
                · exact l_case7d hbn hk hu hR hlw hp9 hh9 sp ho9.1 ho9.2 KKd
                · exact l_case7c hbn hk hu hR hlw hp9 hh9 sp ho9 KKn
              · skip
                refine pe_go rfl (s_icmp_ne_t ⟨by omega, by omega⟩ ⟨by decide, by decide⟩ c7) ?_
                refine pe_go (pc := 900) rfl (s_iload rfl) ?_
                refine pe_go (pc := 902) rfl (s_bipush (z := 27) rfl) ?_
                by_cases c8 : what = 27
                · skip
                  refine pe_go rfl (s_icmp_ne_f ⟨by omega, by omega⟩ ⟨by decide, by decide⟩ (fun e => e c8)) ?_
                  refine pe_few (lv := [(16, .int (iI 0)), (15, .int (iI what)), (14, .int (iI q)), (13, .int (iI p)), (12, .int (iI py)), (11, .int (iI px)), (10, .int (iI grid)), (9, .int (iI 1)), (8, .ref c), (7, .int (iI y)), (6, .int (iI x)), (5, .int (iI (k : Int))), (4, .int (iI (n : Int))), (3, .ref ws), (2, .ref aw), (1, .ref b), (0, .ref s)]) rfl rfl (by intro q hq; simp only [List.mem_cons, List.not_mem_nil, or_false] at hq; rcases hq with rfl | rfl | rfl | rfl | rfl | rfl | rfl | rfl | rfl | rfl | rfl | rfl | rfl | rfl | rfl | rfl | rfl <;> rfl) ?_
                  exact l_case8 hbn hk hu hR hlw hy0 KKd
                · skip
                  refine pe_go rfl (s_icmp_ne_t ⟨by omega, by omega⟩ ⟨by decide, by decide⟩ c8) ?_
                  refine pe_go (pc := 935) rfl (s_iload rfl) ?_
                  refine pe_go (pc := 937) rfl (s_bipush (z := 28) rfl) ?_
                  by_cases c9 : what = 28
                  · skip
                    refine pe_go rfl (s_icmp_ne_f ⟨by omega, by omega⟩ ⟨by decide, by decide⟩ (fun e => e c9)) ?_
                    refine pe_few (lv := [(16, .int (iI 0)), (15, .int (iI what)), (14, .int (iI q)), (13, .int (iI p)), (12, .int (iI py)), (11, .int (iI px)), (10, .int (iI grid)), (9, .int (iI 1)), (8, .ref c), (7, .int (iI y)), (6, .int (iI x)), (5, .int (iI (k : Int))), (4, .int (iI (n : Int))), (3, .ref ws), (2, .ref aw), (1, .ref b), (0, .ref s)]) rfl rfl (by intro q hq; simp only [List.mem_cons, List.not_mem_nil, or_false] at hq; rcases hq with rfl | rfl | rfl | rfl | rfl | rfl | rfl | rfl | rfl | rfl | rfl | rfl | rfl | rfl | rfl | rfl | rfl <;> rfl) ?_
                    exact l_case9 hbn hk hu hR hlw KKd
                  · skip
                    refine pe_go rfl (s_icmp_ne_t ⟨by omega, by omega⟩ ⟨by decide, by decide⟩ c9) ?_
                    refine pe_go (pc := 1189) rfl (s_iload rfl) ?_
                    refine pe_go (pc := 1191) rfl (s_bipush (z := 29) rfl) ?_
                    by_cases c10 : what = 29
                    · skip
                      refine pe_go rfl (s_icmp_ne_f ⟨by omega, by omega⟩ ⟨by decide, by decide⟩ (fun e => e c10)) ?_
                      refine pe_go (pc := 1196) rfl (s_iload rfl) ?_
                      refine pe_go (pc := 1198) rfl (s_bipush (z := 32) rfl) ?_
                      refine pe_go (pc := 1200) rfl (s_idiv ⟨by omega, by omega⟩ ⟨by decide, by decide⟩ (by decide) (by omega) (Int.tdiv_eq_ediv_of_nonneg (by omega))) ?_
                      refine pe_go (pc := 1201) rfl (s_iconst (z := 3) rfl) ?_
                      refine pe_go (pc := 1202) rfl (s_irem ⟨by omega, by omega⟩ ⟨by decide, by decide⟩ (by decide) (by omega) (Int.tmod_eq_emod_of_nonneg (by omega))) ?_
                      by_cases c11 : ((x / 32) % 3) = 0
                      · skip
                        refine pe_go rfl (s_if_ne_f ⟨by omega, by omega⟩ (fun e => e c11)) ?_
                        refine pe_few (lv := [(16, .int (iI 0)), (15, .int (iI what)), (14, .int (iI q)), (13, .int (iI p)), (12, .int (iI py)), (11, .int (iI px)), (10, .int (iI grid)), (9, .int (iI 1)), (8, .ref c), (7, .int (iI y)), (6, .int (iI x)), (5, .int (iI (k : Int))), (4, .int (iI (n : Int))), (3, .ref ws), (2, .ref aw), (1, .ref b), (0, .ref s)]) rfl rfl (by intro q hq; simp only [List.mem_cons, List.not_mem_nil, or_false] at hq; rcases hq with rfl | rfl | rfl | rfl | rfl | rfl | rfl | rfl | rfl | rfl | rfl | rfl | rfl | rfl | rfl | rfl | rfl <;> rfl) ?_
                        exact l_case10_0 hbn hk hu hR hlw sx sy hin KKn
                      · skip
                        refine pe_go rfl (s_if_ne_t ⟨by omega, by omega⟩ c11) ?_
                        refine pe_go (pc := 1342) rfl (s_iload rfl) ?_
                        refine pe_go (pc := 1344) rfl (s_bipush (z := 29) rfl) ?_
                        refine pe_go rfl (s_icmp_ne_f ⟨by omega, by omega⟩ ⟨by decide, by decide⟩ (fun e => e c10)) ?_
                        refine pe_go (pc := 1349) rfl (s_iload rfl) ?_
                        refine pe_go (pc := 1351) rfl (s_bipush (z := 32) rfl) ?_
                        refine pe_go (pc := 1353) rfl (s_idiv ⟨by omega, by omega⟩ ⟨by decide, by decide⟩ (by decide) (by omega) (Int.tdiv_eq_ediv_of_nonneg (by omega))) ?_
                        refine pe_go (pc := 1354) rfl (s_iconst (z := 3) rfl) ?_
                        refine pe_go (pc := 1355) rfl (s_irem ⟨by omega, by omega⟩ ⟨by decide, by decide⟩ (by decide) (by omega) (Int.tmod_eq_emod_of_nonneg (by omega))) ?_
                        refine pe_go (pc := 1356) rfl (s_iconst (z := 1) rfl) ?_
                        by_cases c12 : ((x / 32) % 3) = 1
                        · skip
                          refine pe_go rfl (s_icmp_ne_f ⟨by omega, by omega⟩ ⟨by decide, by decide⟩ (fun e => e c12)) ?_
                          refine pe_few (lv := [(16, .int (iI 0)), (15, .int (iI what)), (14, .int (iI q)), (13, .int (iI p)), (12, .int (iI py)), (11, .int (iI px)), (10, .int (iI grid)), (9, .int (iI 1)), (8, .ref c), (7, .int (iI y)), (6, .int (iI x)), (5, .int (iI (k : Int))), (4, .int (iI (n : Int))), (3, .ref ws), (2, .ref aw), (1, .ref b), (0, .ref s)]) rfl rfl (by intro q hq; simp only [List.mem_cons, List.not_mem_nil, or_false] at hq; rcases hq with rfl | rfl | rfl | rfl | rfl | rfl | rfl | rfl | rfl | rfl | rfl | rfl | rfl | rfl | rfl | rfl | rfl <;> rfl) ?_
                          by_cases h0 : 0 < X.2.2.1
                          · exact l_case11_1 hbn hk hu hR hlw h0 KKd
                          · exact l_case11_0 hbn hk hu hR hlw h0 KKn
                        · skip
                          refine pe_go rfl (s_icmp_ne_t ⟨by omega, by omega⟩ ⟨by decide, by decide⟩ c12) ?_
                          refine pe_go (pc := 1459) rfl (s_iload rfl) ?_
                          refine pe_go (pc := 1461) rfl (s_bipush (z := 29) rfl) ?_
                          refine pe_go rfl (s_icmp_ne_f ⟨by omega, by omega⟩ ⟨by decide, by decide⟩ (fun e => e c10)) ?_
                          refine pe_few (lv := [(16, .int (iI 0)), (15, .int (iI what)), (14, .int (iI q)), (13, .int (iI p)), (12, .int (iI py)), (11, .int (iI px)), (10, .int (iI grid)), (9, .int (iI 1)), (8, .ref c), (7, .int (iI y)), (6, .int (iI x)), (5, .int (iI (k : Int))), (4, .int (iI (n : Int))), (3, .ref ws), (2, .ref aw), (1, .ref b), (0, .ref s)]) rfl rfl (by intro q hq; simp only [List.mem_cons, List.not_mem_nil, or_false] at hq; rcases hq with rfl | rfl | rfl | rfl | rfl | rfl | rfl | rfl | rfl | rfl | rfl | rfl | rfl | rfl | rfl | rfl | rfl <;> rfl) ?_
                          exact l_case12 hbn hk hu hR hlw hy0 hw hwn hwb KKt
                    · skip
                      refine pe_go rfl (s_icmp_ne_t ⟨by omega, by omega⟩ ⟨by decide, by decide⟩ c10) ?_
                      refine pe_go (pc := 1342) rfl (s_iload rfl) ?_
                      refine pe_go (pc := 1344) rfl (s_bipush (z := 29) rfl) ?_
                      refine pe_go rfl (s_icmp_ne_t ⟨by omega, by omega⟩ ⟨by decide, by decide⟩ c10) ?_
                      refine pe_go (pc := 1459) rfl (s_iload rfl) ?_
                      refine pe_go (pc := 1461) rfl (s_bipush (z := 29) rfl) ?_
                      refine pe_go rfl (s_icmp_ne_t ⟨by omega, by omega⟩ ⟨by decide, by decide⟩ c10) ?_
                      refine pe_few (lv := [(16, .int (iI 0)), (15, .int (iI what)), (14, .int (iI q)), (13, .int (iI p)), (12, .int (iI py)), (11, .int (iI px)), (10, .int (iI grid)), (9, .int (iI 1)), (8, .ref c), (7, .int (iI y)), (6, .int (iI x)), (5, .int (iI (k : Int))), (4, .int (iI (n : Int))), (3, .ref ws), (2, .ref aw), (1, .ref b), (0, .ref s)]) rfl rfl (by intro q hq; simp only [List.mem_cons, List.not_mem_nil, or_false] at hq; rcases hq with rfl | rfl | rfl | rfl | rfl | rfl | rfl | rfl | rfl | rfl | rfl | rfl | rfl | rfl | rfl | rfl | rfl <;> rfl) ?_
                      rcases List.eq_nil_or_concat L with rfl | ⟨L', J, eL⟩
                      · obtain rfl : n = 0 := hn
                        exact l_case13n hk rfl (fun w9 ho9 hc9 => KKn w9 ho9 (P_chg hc9) (G_of (g_chg hc9) (by decide) (by decide)))
                      rw [List.concat_eq_append] at eL
                      subst eL
                      have hlen : (L' ++ [J]).length = L'.length + 1 := by rw [List.length_append]; rfl
                      obtain ⟨a2, ea2⟩ := hwf L'.length (by omega)
                      exact l_case13y hk rfl (hn.trans hlen) (by omega) hws hwsb ea2 (fun w9 R hr9 ho9 hc9 => KKu L' J _ a2 rfl rfl (hn.trans hlen) ea2 w9 R hr9 ho9 hc9)
            · skip
              refine pe_go rfl (s_icmp_ge_f ⟨by omega, by omega⟩ ⟨by decide, by decide⟩ c6) ?_
              refine pe_few (lv := [(16, .int (iI 0)), (15, .int (iI what)), (14, .int (iI q)), (13, .int (iI p)), (12, .int (iI py)), (11, .int (iI px)), (10, .int (iI grid)), (9, .int (iI 1)), (8, .ref c), (7, .int (iI y)), (6, .int (iI x)), (5, .int (iI (k : Int))), (4, .int (iI (n : Int))), (3, .ref ws), (2, .ref aw), (1, .ref b), (0, .ref s)]) rfl rfl (by intro q hq; simp only [List.mem_cons, List.not_mem_nil, or_false] at hq; rcases hq with rfl | rfl | rfl | rfl | rfl | rfl | rfl | rfl | rfl | rfl | rfl | rfl | rfl | rfl | rfl | rfl | rfl <;> rfl) ?_
              exact l_case6 hbn hk hu hR hlw hy0 hx0 KKd
          · skip
            refine pe_go rfl (s_icmp_ge_f ⟨by omega, by omega⟩ ⟨by decide, by decide⟩ c5) ?_
            refine pe_few (lv := [(16, .int (iI 0)), (15, .int (iI what)), (14, .int (iI q)), (13, .int (iI p)), (12, .int (iI py)), (11, .int (iI px)), (10, .int (iI grid)), (9, .int (iI 1)), (8, .ref c), (7, .int (iI y)), (6, .int (iI x)), (5, .int (iI (k : Int))), (4, .int (iI (n : Int))), (3, .ref ws), (2, .ref aw), (1, .ref b), (0, .ref s)]) rfl rfl (by intro q hq; simp only [List.mem_cons, List.not_mem_nil, or_false] at hq; rcases hq with rfl | rfl | rfl | rfl | rfl | rfl | rfl | rfl | rfl | rfl | rfl | rfl | rfl | rfl | rfl | rfl | rfl <;> rfl) ?_
            rcases hp with rfl | ⟨p9, hp9, rfl⟩
            · exact l_case5a hbn hk hu hR hlw hq KKn
            rcases hq with rfl | ⟨q9, hq9, rfl⟩
            · exact l_case5b hbn hk hu hR hlw hp9 KKn
            by_cases hw1 : S.how p9 q9 = 1
            · exact l_case5d hbn hk hu hR hlw hp9 hq9 hw1 KKd
            · exact l_case5c hbn hk hu hR hlw hp9 hq9 hw1 KKn
        · skip
          refine pe_go rfl (s_icmp_ge_f ⟨by omega, by omega⟩ ⟨by decide, by decide⟩ c4) ?_
          refine pe_few (lv := [(16, .int (iI 0)), (15, .int (iI what)), (14, .int (iI q)), (13, .int (iI p)), (12, .int (iI py)), (11, .int (iI px)), (10, .int (iI grid)), (9, .int (iI 1)), (8, .ref c), (7, .int (iI y)), (6, .int (iI x)), (5, .int (iI (k : Int))), (4, .int (iI (n : Int))), (3, .ref ws), (2, .ref aw), (1, .ref b), (0, .ref s)]) rfl rfl (by intro q hq; simp only [List.mem_cons, List.not_mem_nil, or_false] at hq; rcases hq with rfl | rfl | rfl | rfl | rfl | rfl | rfl | rfl | rfl | rfl | rfl | rfl | rfl | rfl | rfl | rfl | rfl <;> rfl) ?_
          rcases hp with rfl | ⟨p9, hp9, rfl⟩
          · exact l_case4a hbn hk hu hR hlw hq KKn
          rcases hq with rfl | ⟨q9, hq9, rfl⟩
          · exact l_case4b hbn hk hu hR hlw hp9 KKn
          by_cases hpq : p9 = q9
          · exact l_case4c hbn hk hu hR hlw hp9 hq9 hpq KKn
          by_cases sp : S.has p9
          rotate_left
          · exact l_case4d hbn hk hu hR hlw hp9 hq9 hpq sp KKn
          by_cases sq : S.has q9
          rotate_left
          · exact l_case4e hbn hk hu hR hlw hp9 hq9 hpq sp sq KKn
          by_cases hw0 : S.how p9 q9 = 0
          rotate_left
          · exact l_case4f hbn hk hu hR hlw hp9 hq9 hpq sp sq hw0 KKn
          by_cases hv : X.sees p9 q9
          · exact l_case4h hbn hk hu hR hlw hp9 hq9 hpq sp sq hw0 hv KKd
          · exact l_case4g hbn hk hu hR hlw hp9 hq9 hpq sp sq hw0 hv KKn
      · skip
        refine pe_go rfl (s_icmp_ge_f ⟨by omega, by omega⟩ ⟨by decide, by decide⟩ c3) ?_
        refine pe_few (lv := [(16, .int (iI 0)), (15, .int (iI what)), (14, .int (iI q)), (13, .int (iI p)), (12, .int (iI py)), (11, .int (iI px)), (10, .int (iI grid)), (9, .int (iI 1)), (8, .ref c), (7, .int (iI y)), (6, .int (iI x)), (5, .int (iI (k : Int))), (4, .int (iI (n : Int))), (3, .ref ws), (2, .ref aw), (1, .ref b), (0, .ref s)]) rfl rfl (by intro q hq; simp only [List.mem_cons, List.not_mem_nil, or_false] at hq; rcases hq with rfl | rfl | rfl | rfl | rfl | rfl | rfl | rfl | rfl | rfl | rfl | rfl | rfl | rfl | rfl | rfl | rfl <;> rfl) ?_
        rcases ptN_loose (S := S) hp with ⟨p9, hp9, rfl, hl⟩ | hl
        · exact l_case3y0 hbn hk hu hR hlw sx sy hp9 hl hin KKn
        · exact l_case3n hbn hk hu hR hlw sx sy hp hl KKn
    · skip
      refine pe_go rfl (s_icmp_ge_f ⟨by omega, by omega⟩ ⟨by decide, by decide⟩ c2) ?_
      refine pe_few (lv := [(16, .int (iI 0)), (15, .int (iI what)), (14, .int (iI q)), (13, .int (iI p)), (12, .int (iI py)), (11, .int (iI px)), (10, .int (iI grid)), (9, .int (iI 1)), (8, .ref c), (7, .int (iI y)), (6, .int (iI x)), (5, .int (iI (k : Int))), (4, .int (iI (n : Int))), (3, .ref ws), (2, .ref aw), (1, .ref b), (0, .ref s)]) rfl rfl (by intro q hq; simp only [List.mem_cons, List.not_mem_nil, or_false] at hq; rcases hq with rfl | rfl | rfl | rfl | rfl | rfl | rfl | rfl | rfl | rfl | rfl | rfl | rfl | rfl | rfl | rfl | rfl <;> rfl) ?_
      rcases ptN_loose (S := S) hp with ⟨p9, hp9, rfl, hl⟩ | hl
      · exact l_case2y hbn hk hu hR hlw hp9 hl KKd
      · exact l_case2n hbn hk hu hR hlw hp hl KKn
  · skip
    refine pe_go rfl (s_icmp_ge_f ⟨by omega, by omega⟩ ⟨by decide, by decide⟩ c1) ?_
    refine pe_few (lv := [(16, .int (iI 0)), (15, .int (iI what)), (14, .int (iI q)), (13, .int (iI p)), (12, .int (iI py)), (11, .int (iI px)), (10, .int (iI grid)), (9, .int (iI 1)), (8, .ref c), (7, .int (iI y)), (6, .int (iI x)), (5, .int (iI (k : Int))), (4, .int (iI (n : Int))), (3, .ref ws), (2, .ref aw), (1, .ref b), (0, .ref s)]) rfl rfl (by intro q hq; simp only [List.mem_cons, List.not_mem_nil, or_false] at hq; rcases hq with rfl | rfl | rfl | rfl | rfl | rfl | rfl | rfl | rfl | rfl | rfl | rfl | rfl | rfl | rfl | rfl | rfl <;> rfl) ?_
    exact l_case1_0 hbn hk hu hR hlw sx sy hin KKn
