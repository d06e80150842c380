/-! THE LAW: a mesh beside, piece by piece. Rows laid by program (wip/p63/wk.py, hw.py, mk98zi.py). -/
theorem l_top {w : pW} {O Q : Nat → Prop} {a : Nat} {X : Sh} {pa fa ha : Nat} {pf gf hf : Nat → Option Nat} {ff : Nat → Nat} (hS : shP w O Q a X pa fa ha pf gf hf ff) {S : St} (hR : Rel S X) {t v : Nat} {Φ : Option Value → pW → Prop} (KK : ∀ top : Nat, 3 ≤ top → top < 40 → (∀ i : Nat, top < i → i < 40 → ¬ S.has i) → qE 157 (39, [(3, .int (iI (top : Int))), (2, .ref v), (1, .ref t), (0, .ref a)], [], w) Φ) : ∀ (d k : Nat), k = 3 + d → k < 40 → (∀ i : Nat, k < i → i < 40 → ¬ S.has i) → qE 157 (19, [(3, .int (iI (k : Int))), (2, .ref v), (1, .ref t), (0, .ref a)], [], w) Φ := by
  obtain ⟨hb9, h0, h1, h2, h3, h4, h5, h6, h7, h8, h9⟩ := hS
  intro d
  induction d with
  | zero =>
    intro k hk3 hk hn
    refine pe_go (pc := 19) rfl (s_iload_n rfl) ?_
    refine pe_go (pc := 20) rfl (s_iconst (z := 3) rfl) ?_
    refine pe_go rfl (s_icmp_le_t ⟨by omega, by omega⟩ ⟨by decide, by decide⟩ (by omega)) ?_
    refine pe_few (lv := [(3, .int (iI (k : Int))), (2, .ref v), (1, .ref t), (0, .ref a)]) rfl rfl (by intro q hq; simp only [List.mem_cons, List.not_mem_nil, or_false] at hq; rcases hq with rfl | rfl | rfl | rfl <;> rfl) ?_
    exact KK k (by omega) hk hn
  | succ d ih =>
    intro k hk3 hk hn
    by_cases sk : S.has k
    · obtain ⟨rk, ek, -, hrk⟩ := h3 k _ _ _ hk (hR.pt hk sk)
      refine pe_go (pc := 19) rfl (s_iload_n rfl) ?_
      refine pe_go (pc := 20) rfl (s_iconst (z := 3) rfl) ?_
      refine pe_go rfl (s_icmp_le_f ⟨by omega, by omega⟩ ⟨by decide, by decide⟩ (by omega)) ?_
      refine pe_go (pc := 24) rfl (s_aload_n rfl) ?_
      refine pe_go (pc := 25) rfl (s_getf (v := .ref pa) h0 rfl) ?_
      refine pe_go (pc := 28) rfl (s_iload_n rfl) ?_
      refine pe_go (pc := 29) rfl (s_aald h1 (k := k) (by omega) (by omega) ek) ?_
      refine pe_go (pc := 30) rfl s_ifnonnull_t ?_
      refine pe_few (lv := [(3, .int (iI (k : Int))), (2, .ref v), (1, .ref t), (0, .ref a)]) rfl rfl (by intro q hq; simp only [List.mem_cons, List.not_mem_nil, or_false] at hq; rcases hq with rfl | rfl | rfl | rfl <;> rfl) ?_
      exact KK k (by omega) hk hn
    · have ek := h2 k hk (hR.no hk sk)
      obtain ⟨n, en⟩ : ∃ n : Nat, k = n + 1 := ⟨k - 1, by omega⟩
      refine pe_go (pc := 19) rfl (s_iload_n rfl) ?_
      refine pe_go (pc := 20) rfl (s_iconst (z := 3) rfl) ?_
      refine pe_go rfl (s_icmp_le_f ⟨by omega, by omega⟩ ⟨by decide, by decide⟩ (by omega)) ?_
      refine pe_go (pc := 24) rfl (s_aload_n rfl) ?_
      refine pe_go (pc := 25) rfl (s_getf (v := .ref pa) h0 rfl) ?_
      refine pe_go (pc := 28) rfl (s_iload_n rfl) ?_
      refine pe_go (pc := 29) rfl (s_aaldN h1 (k := k) (by omega) (by omega) ek) ?_
      refine pe_go (pc := 30) rfl s_ifnonnull_f ?_
      refine pe_go (pc := 33) rfl (s_iinc (x := (k : Int)) (y := (k : Int) + (-1)) rfl (by omega) (lv' := [(3, .int (iI ((k : Int) + (-1)))), (2, .ref v), (1, .ref t), (0, .ref a)]) rfl) ?_
      refine pe_go (pc := 36) rfl s_goto ?_
      rw [show (k : Int) + -1 = (n : Int) by omega]
      refine pe_few (lv := [(3, .int (iI (n : Int))), (2, .ref v), (1, .ref t), (0, .ref a)]) rfl rfl (by intro q hq; simp only [List.mem_cons, List.not_mem_nil, or_false] at hq; rcases hq with rfl | rfl | rfl | rfl <;> rfl) ?_
      exact ih n (by omega) (by omega) (fun i hi hi4 => (Nat.lt_or_ge k i).elim (fun z => hn i z hi4) (fun z => (show i = k by omega) ▸ sk))
theorem l_b39 {w : pW} {a t v top m : Nat} (hm : w.length = m) {Φ : Option Value → pW → Prop} (KK : qE 157 (48, [(5, .int (iI ((4 : Nat) : Int))), (4, .ref m), (3, .int (iI (top : Int))), (2, .ref v), (1, .ref t), (0, .ref a)], [], w ++ [.inl (2, 40, .inl (fun j => iI ((fun _ => (0 : Int)) j)))]) Φ) : qE 157 (39, [(3, .int (iI (top : Int))), (2, .ref v), (1, .ref t), (0, .ref a)], [], w) Φ := by
  refine pe_go (pc := 39) rfl (s_bipush (z := 40) rfl) ?_
  refine pe_go (pc := 41) rfl (s_newB (n := 40) hm rfl (by decide)) ?_
  refine pe_go (pc := 43) rfl (s_astore (lv' := [(4, .ref m), (3, .int (iI (top : Int))), (2, .ref v), (1, .ref t), (0, .ref a)]) rfl) ?_
  refine pe_go (pc := 45) rfl (s_iconst (z := 4) rfl) ?_
  refine pe_go (pc := 46) rfl (s_istore (lv' := [(5, .int (iI 4)), (4, .ref m), (3, .int (iI (top : Int))), (2, .ref v), (1, .ref t), (0, .ref a)]) rfl) ?_
  refine pe_few (lv := [(5, .int (iI ((4 : Nat) : Int))), (4, .ref m), (3, .int (iI (top : Int))), (2, .ref v), (1, .ref t), (0, .ref a)]) rfl rfl (by intro q hq; simp only [List.mem_cons, List.not_mem_nil, or_false] at hq; rcases hq with rfl | rfl | rfl | rfl | rfl | rfl <;> rfl) ?_
  exact KK
theorem l_b48y {w : pW} {O Q : Nat → Prop} {a : Nat} {X : Sh} {pa fa ha : Nat} {pf gf hf : Nat → Option Nat} {ff : Nat → Nat} (hS : shP w O Q a X pa fa ha pf gf hf ff) {S : St} (hR : Rel S X) {t v sp top k : Nat} (hk : k < 40) (hkt : k ≤ top ∧ top < 40) (sk : S.has k) {Φ : Option Value → pW → Prop} (KK : qE 157 (157, [(7, .int (iI (S.ys k))), (6, .int (iI (S.xs k))), (5, .int (iI (k : Int))), (4, .ref sp), (3, .int (iI (top : Int))), (2, .ref v), (1, .ref t), (0, .ref a)], [], w) Φ) : qE 157 (48, [(5, .int (iI (k : Int))), (4, .ref sp), (3, .int (iI (top : Int))), (2, .ref v), (1, .ref t), (0, .ref a)], [], w) Φ := by
  obtain ⟨hb9, h0, h1, h2, h3, h4, h5, h6, h7, h8, h9⟩ := hS
  obtain ⟨rk, ek, -, hrk⟩ := h3 k _ _ _ hk (hR.pt hk sk)
  refine pe_go (pc := 48) rfl (s_iload rfl) ?_
  refine pe_go (pc := 50) rfl (s_iload_n rfl) ?_
  refine pe_go rfl (s_icmp_gt_f ⟨by omega, by omega⟩ ⟨by omega, by omega⟩ (by omega)) ?_
  refine pe_go (pc := 54) rfl (s_aload_n rfl) ?_
  refine pe_go (pc := 55) rfl (s_getf (v := .ref pa) h0 rfl) ?_
  refine pe_go (pc := 58) rfl (s_iload rfl) ?_
  refine pe_go (pc := 60) rfl (s_aald h1 (k := k) (by omega) (by omega) ek) ?_
  refine pe_go (pc := 61) rfl s_ifnonnull_t ?_
  refine pe_go (pc := 75) rfl (s_aload_n rfl) ?_
  refine pe_go (pc := 76) rfl (s_getf (v := .ref pa) h0 rfl) ?_
  refine pe_go (pc := 79) rfl (s_iload rfl) ?_
  refine pe_go (pc := 81) rfl (s_aald h1 (k := k) (by omega) (by omega) ek) ?_
  refine pe_go (pc := 82) rfl (s_iconst (z := 0) rfl) ?_
  refine pe_go (pc := 83) rfl (s_iald (n := 3) (f := row3 (S.xs k) (S.ys k) (S.hs k)) (v := S.xs k) hrk (k := 0) (by omega) (by omega) (by decide) rfl) ?_
  refine pe_go (pc := 84) rfl (s_istore (lv' := [(6, .int (iI (S.xs k))), (5, .int (iI (k : Int))), (4, .ref sp), (3, .int (iI (top : Int))), (2, .ref v), (1, .ref t), (0, .ref a)]) rfl) ?_
  refine pe_go (pc := 86) rfl (s_aload_n rfl) ?_
  refine pe_go (pc := 87) rfl (s_getf (v := .ref pa) h0 rfl) ?_
  refine pe_go (pc := 90) rfl (s_iload rfl) ?_
  refine pe_go (pc := 92) rfl (s_aald h1 (k := k) (by omega) (by omega) ek) ?_
  refine pe_go (pc := 93) rfl s_ifnonnull_t ?_
  refine pe_go (pc := 108) rfl (s_aload_n rfl) ?_
  refine pe_go (pc := 109) rfl (s_getf (v := .ref pa) h0 rfl) ?_
  refine pe_go (pc := 112) rfl (s_iload rfl) ?_
  refine pe_go (pc := 114) rfl (s_aald h1 (k := k) (by omega) (by omega) ek) ?_
  refine pe_go (pc := 115) rfl (s_iconst (z := 1) rfl) ?_
  refine pe_go (pc := 116) rfl (s_iald (n := 3) (f := row3 (S.xs k) (S.ys k) (S.hs k)) (v := S.ys k) hrk (k := 1) (by omega) (by omega) (by decide) rfl) ?_
  refine pe_go (pc := 117) rfl (s_istore (lv' := [(7, .int (iI (S.ys k))), (6, .int (iI (S.xs k))), (5, .int (iI (k : Int))), (4, .ref sp), (3, .int (iI (top : Int))), (2, .ref v), (1, .ref t), (0, .ref a)]) rfl) ?_
  refine pe_go (pc := 119) rfl (s_aload_n rfl) ?_
  refine pe_go (pc := 120) rfl (s_getf (v := .ref pa) h0 rfl) ?_
  refine pe_go (pc := 123) rfl (s_iload rfl) ?_
  refine pe_go (pc := 125) rfl (s_aald h1 (k := k) (by omega) (by omega) ek) ?_
  refine pe_go (pc := 126) rfl s_ifnonnull_t ?_
  refine pe_few (lv := [(7, .int (iI (S.ys k))), (6, .int (iI (S.xs k))), (5, .int (iI (k : Int))), (4, .ref sp), (3, .int (iI (top : Int))), (2, .ref v), (1, .ref t), (0, .ref a)]) rfl rfl (by intro q hq; simp only [List.mem_cons, List.not_mem_nil, or_false] at hq; rcases hq with rfl | rfl | rfl | rfl | rfl | rfl | rfl | rfl <;> rfl) ?_
  exact KK
theorem l_b48n {w : pW} {O Q : Nat → Prop} {a : Nat} {X : Sh} {pa fa ha : Nat} {pf gf hf : Nat → Option Nat} {ff : Nat → Nat} (hS : shP w O Q a X pa fa ha pf gf hf ff) {S : St} (hR : Rel S X) {t v sp top k : Nat} (hk : k < 40) (hkt : k ≤ top ∧ top < 40) (sk : ¬ S.has k) {Φ : Option Value → pW → Prop} (KK : qE 157 (119, [(7, .int (iI ((-991) + (k : Int) * (k : Int)))), (6, .int (iI ((-997) + 3 * (k : Int)))), (5, .int (iI (k : Int))), (4, .ref sp), (3, .int (iI (top : Int))), (2, .ref v), (1, .ref t), (0, .ref a)], [], w) Φ) : qE 157 (48, [(5, .int (iI (k : Int))), (4, .ref sp), (3, .int (iI (top : Int))), (2, .ref v), (1, .ref t), (0, .ref a)], [], w) Φ := by
  obtain ⟨hb9, h0, h1, h2, h3, h4, h5, h6, h7, h8, h9⟩ := hS
  have ek := h2 k hk (hR.no hk sk)
  refine pe_go (pc := 48) rfl (s_iload rfl) ?_
  refine pe_go (pc := 50) rfl (s_iload_n rfl) ?_
  refine pe_go rfl (s_icmp_gt_f ⟨by omega, by omega⟩ ⟨by omega, by omega⟩ (by omega)) ?_
  refine pe_go (pc := 54) rfl (s_aload_n rfl) ?_
  refine pe_go (pc := 55) rfl (s_getf (v := .ref pa) h0 rfl) ?_
  refine pe_go (pc := 58) rfl (s_iload rfl) ?_
  refine pe_go (pc := 60) rfl (s_aaldN h1 (k := k) (by omega) (by omega) ek) ?_
  refine pe_go (pc := 61) rfl s_ifnonnull_f ?_
  refine pe_go (pc := 64) rfl (s_sipush (z := -997) rfl) ?_
  refine pe_go (pc := 67) rfl (s_iconst (z := 3) rfl) ?_
  refine pe_go (pc := 68) rfl (s_iload rfl) ?_
  refine pe_go (pc := 70) rfl s_imul ?_
  refine pe_go (pc := 71) rfl s_iadd ?_
  refine pe_go (pc := 72) rfl s_goto ?_
  refine pe_go (pc := 84) rfl (s_istore (lv' := [(6, .int (iI ((-997) + (3 * (k : Int))))), (5, .int (iI (k : Int))), (4, .ref sp), (3, .int (iI (top : Int))), (2, .ref v), (1, .ref t), (0, .ref a)]) rfl) ?_
  refine pe_go (pc := 86) rfl (s_aload_n rfl) ?_
  refine pe_go (pc := 87) rfl (s_getf (v := .ref pa) h0 rfl) ?_
  refine pe_go (pc := 90) rfl (s_iload rfl) ?_
  refine pe_go (pc := 92) rfl (s_aaldN h1 (k := k) (by omega) (by omega) ek) ?_
  refine pe_go (pc := 93) rfl s_ifnonnull_f ?_
  refine pe_go (pc := 96) rfl (s_sipush (z := -991) rfl) ?_
  refine pe_go (pc := 99) rfl (s_iload rfl) ?_
  refine pe_go (pc := 101) rfl (s_iload rfl) ?_
  refine pe_go (pc := 103) rfl s_imul ?_
  refine pe_go (pc := 104) rfl s_iadd ?_
  refine pe_go (pc := 105) rfl s_goto ?_
  refine pe_go (pc := 117) rfl (s_istore (lv' := [(7, .int (iI ((-991) + ((k : Int) * (k : Int))))), (6, .int (iI ((-997) + (3 * (k : Int))))), (5, .int (iI (k : Int))), (4, .ref sp), (3, .int (iI (top : Int))), (2, .ref v), (1, .ref t), (0, .ref a)]) rfl) ?_
  refine pe_few (lv := [(7, .int (iI ((-991) + (k : Int) * (k : Int)))), (6, .int (iI ((-997) + 3 * (k : Int)))), (5, .int (iI (k : Int))), (4, .ref sp), (3, .int (iI (top : Int))), (2, .ref v), (1, .ref t), (0, .ref a)]) rfl rfl (by intro q hq; simp only [List.mem_cons, List.not_mem_nil, or_false] at hq; rcases hq with rfl | rfl | rfl | rfl | rfl | rfl | rfl | rfl <;> rfl) ?_
  exact KK
theorem l_b48x {w : pW} {a t v sp top k : Nat} (hkt : top < k ∧ k ≤ 40) {Φ : Option Value → pW → Prop} (KK : qE 157 (225, [(5, .int (iI ((4 : Nat) : Int))), (4, .ref sp), (3, .int (iI (top : Int))), (2, .ref v), (1, .ref t), (0, .ref a)], [], w) Φ) : qE 157 (48, [(5, .int (iI (k : Int))), (4, .ref sp), (3, .int (iI (top : Int))), (2, .ref v), (1, .ref t), (0, .ref a)], [], w) Φ := by
  refine pe_go (pc := 48) rfl (s_iload rfl) ?_
  refine pe_go (pc := 50) rfl (s_iload_n rfl) ?_
  refine pe_go rfl (s_icmp_gt_t ⟨by omega, by omega⟩ ⟨by omega, by omega⟩ (by omega)) ?_
  refine pe_go (pc := 222) rfl (s_iconst (z := 4) rfl) ?_
  refine pe_go (pc := 223) rfl (s_istore (lv' := [(5, .int (iI 4)), (4, .ref sp), (3, .int (iI (top : Int))), (2, .ref v), (1, .ref t), (0, .ref a)]) rfl) ?_
  refine pe_few (lv := [(5, .int (iI ((4 : Nat) : Int))), (4, .ref sp), (3, .int (iI (top : Int))), (2, .ref v), (1, .ref t), (0, .ref a)]) rfl rfl (by intro q hq; simp only [List.mem_cons, List.not_mem_nil, or_false] at hq; rcases hq with rfl | rfl | rfl | rfl | rfl | rfl <;> rfl) ?_
  exact KK
theorem l_place {w : pW} {O Q : Nat → Prop} {a : Nat} {X : Sh} {pa fa ha : Nat} {pf gf hf : Nat → Option Nat} {ff : Nat → Nat} (hS : shP w O Q a X pa fa ha pf gf hf ff) {S : St} (hR : Rel S X) (hX9 : ∀ (k : Nat) (x y z : Int), k < 40 → X.1 k = some (x, y, z) → inSq x y ∧ -9999 ≤ z ∧ z ≤ 9999) {O2 Q2 : Nat → Prop} {v : Nat} {V : Sh} (hV : shAt w O2 Q2 v V) (hV9 : ∀ (k : Nat) (x y z : Int), k < 40 → V.1 k = some (x, y, z) → inSq x y ∧ -9999 ≤ z ∧ z ≤ 9999) {t sp top k : Nat} (hk : k < 40) (sk : ¬ S.has k) {xe y : Int} (hx : sm xe) (hy : sm y) (hxe : X.at xe y < 0 ∧ V.at xe y < 0) {Φ : Option Value → pW → Prop} (KK : qE 157 (157, [(7, .int (iI y)), (6, .int (iI xe)), (5, .int (iI (k : Int))), (4, .ref sp), (3, .int (iI (top : Int))), (2, .ref v), (1, .ref t), (0, .ref a)], [], w) Φ) : ∀ (d : Nat) (x : Int), x + d = xe → -2000000000 ≤ x → (∀ x9 : Int, x ≤ x9 → x9 < xe → ¬ (X.at x9 y < 0 ∧ V.at x9 y < 0)) → qE 157 (119, [(7, .int (iI y)), (6, .int (iI x)), (5, .int (iI (k : Int))), (4, .ref sp), (3, .int (iI (top : Int))), (2, .ref v), (1, .ref t), (0, .ref a)], [], w) Φ := by
  have hSA : shAt w O Q a X := ⟨pa, fa, ha, pf, gf, hf, ff, hS⟩
  obtain ⟨fv, hvo⟩ := sh_obj hV
  obtain ⟨hb9, h0, h1, h2, h3, h4, h5, h6, h7, h8, h9⟩ := hS
  have ek := h2 k hk (hR.no hk sk)
  intro d
  induction d with
  | zero =>
    intro x hd hx2 hoc
    have ex : x = xe := by omega
    subst ex
    refine pe_go (pc := 119) rfl (s_aload_n rfl) ?_
    refine pe_go (pc := 120) rfl (s_getf (v := .ref pa) h0 rfl) ?_
    refine pe_go (pc := 123) rfl (s_iload rfl) ?_
    refine pe_go (pc := 125) rfl (s_aaldN h1 (k := k) (by omega) (by omega) ek) ?_
    refine pe_go (pc := 126) rfl s_ifnonnull_f ?_
    refine pe_go (pc := 129) rfl (s_aload_n rfl) ?_
    refine pe_go (pc := 130) rfl (s_iload rfl) ?_
    refine pe_go (pc := 132) rfl (s_iload rfl) ?_
    refine pe_call rfl (s_invV rfl h0 rfl rfl) (w_at hSA hX9 (x := x) (y := y) ⟨by have := hx.1; have := hx.2; omega, by have := hx.1; have := hx.2; omega⟩ hy) ?_
    refine pe_go rfl (s_if_ge_f (Sh.at_sm _ _ _) (by have := hxe.1; omega)) ?_
    refine pe_go (pc := 140) rfl (s_aload_n rfl) ?_
    refine pe_go (pc := 141) rfl (s_iload rfl) ?_
    refine pe_go (pc := 143) rfl (s_iload rfl) ?_
    refine pe_call rfl (s_invV rfl hvo rfl rfl) (w_at hV hV9 (x := x) (y := y) ⟨by have := hx.1; have := hx.2; omega, by have := hx.1; have := hx.2; omega⟩ hy) ?_
    refine pe_go rfl (s_if_lt_t (Sh.at_sm _ _ _) hxe.2) ?_
    refine pe_few (lv := [(7, .int (iI y)), (6, .int (iI x)), (5, .int (iI (k : Int))), (4, .ref sp), (3, .int (iI (top : Int))), (2, .ref v), (1, .ref t), (0, .ref a)]) rfl rfl (by intro q hq; simp only [List.mem_cons, List.not_mem_nil, or_false] at hq; rcases hq with rfl | rfl | rfl | rfl | rfl | rfl | rfl | rfl <;> rfl) ?_
    exact KK
  | succ d ih =>
    intro x hd hx2 hoc
    have ho := hoc x (Int.le_refl x) (by omega)
    refine pe_go (pc := 119) rfl (s_aload_n rfl) ?_
    refine pe_go (pc := 120) rfl (s_getf (v := .ref pa) h0 rfl) ?_
    refine pe_go (pc := 123) rfl (s_iload rfl) ?_
    refine pe_go (pc := 125) rfl (s_aaldN h1 (k := k) (by omega) (by omega) ek) ?_
    refine pe_go (pc := 126) rfl s_ifnonnull_f ?_
    refine pe_go (pc := 129) rfl (s_aload_n rfl) ?_
    refine pe_go (pc := 130) rfl (s_iload rfl) ?_
    refine pe_go (pc := 132) rfl (s_iload rfl) ?_
    refine pe_call rfl (s_invV rfl h0 rfl rfl) (w_at hSA hX9 (x := x) (y := y) ⟨by have := hx.1; have := hx.2; omega, by have := hx.1; have := hx.2; omega⟩ hy) ?_
    by_cases c1 : 0 ≤ (X.at x y)
    · skip
      refine pe_go rfl (s_if_ge_t (Sh.at_sm _ _ _) c1) ?_
      refine pe_go (pc := 151) rfl (s_iinc (x := x) (y := x + 1) rfl rfl (lv' := [(6, .int (iI (x + 1))), (7, .int (iI y)), (5, .int (iI (k : Int))), (4, .ref sp), (3, .int (iI (top : Int))), (2, .ref v), (1, .ref t), (0, .ref a)]) rfl) ?_
      refine pe_go (pc := 154) rfl s_goto ?_
      refine pe_few (lv := [(7, .int (iI y)), (6, .int (iI (x + 1))), (5, .int (iI (k : Int))), (4, .ref sp), (3, .int (iI (top : Int))), (2, .ref v), (1, .ref t), (0, .ref a)]) rfl rfl (by intro q hq; simp only [List.mem_cons, List.not_mem_nil, or_false] at hq; rcases hq with rfl | rfl | rfl | rfl | rfl | rfl | rfl | rfl <;> rfl) ?_
      exact ih (x + 1) (by omega) (by omega) (fun x9 h1 h2 => hoc x9 (by omega) h2)
    · skip
      refine pe_go rfl (s_if_ge_f (Sh.at_sm _ _ _) c1) ?_
      refine pe_go (pc := 140) rfl (s_aload_n rfl) ?_
      refine pe_go (pc := 141) rfl (s_iload rfl) ?_
      refine pe_go (pc := 143) rfl (s_iload rfl) ?_
      refine pe_call rfl (s_invV rfl hvo rfl rfl) (w_at hV hV9 (x := x) (y := y) ⟨by have := hx.1; have := hx.2; omega, by have := hx.1; have := hx.2; omega⟩ hy) ?_
      refine pe_go rfl (s_if_lt_f (Sh.at_sm _ _ _) (fun z => ho ⟨by omega, z⟩)) ?_
      refine pe_go (pc := 151) rfl (s_iinc (x := x) (y := x + 1) rfl rfl (lv' := [(6, .int (iI (x + 1))), (7, .int (iI y)), (5, .int (iI (k : Int))), (4, .ref sp), (3, .int (iI (top : Int))), (2, .ref v), (1, .ref t), (0, .ref a)]) rfl) ?_
      refine pe_go (pc := 154) rfl s_goto ?_
      refine pe_few (lv := [(7, .int (iI y)), (6, .int (iI (x + 1))), (5, .int (iI (k : Int))), (4, .ref sp), (3, .int (iI (top : Int))), (2, .ref v), (1, .ref t), (0, .ref a)]) rfl rfl (by intro q hq; simp only [List.mem_cons, List.not_mem_nil, or_false] at hq; rcases hq with rfl | rfl | rfl | rfl | rfl | rfl | rfl | rfl <;> rfl) ?_
      exact ih (x + 1) (by omega) (by omega) (fun x9 h1 h2 => hoc x9 (by omega) h2)
theorem l_b157y {w : pW} {O Q : Nat → Prop} {a : Nat} {X : Sh} {pa fa ha : Nat} {pf gf hf : Nat → Option Nat} {ff : Nat → Nat} (hS : shP w O Q a X pa fa ha pf gf hf ff) {S : St} (hR : Rel S X) {t v sp top k : Nat} (hk : k < 40) (sk : S.has k) {x y : Int} {f : Nat → Int} (hsp : rowB w sp 40 f) {Φ : Option Value → pW → Prop} (KK : qE 157 (177, [(7, .int (iI y)), (6, .int (iI x)), (5, .int (iI (k : Int))), (4, .ref sp), (3, .int (iI (top : Int))), (2, .ref v), (1, .ref t), (0, .ref a)], [], w.set sp (.inl (2, 40, .inl (fun j => iI (uZ f k 0 j))))) Φ) : qE 157 (157, [(7, .int (iI y)), (6, .int (iI x)), (5, .int (iI (k : Int))), (4, .ref sp), (3, .int (iI (top : Int))), (2, .ref v), (1, .ref t), (0, .ref a)], [], w) Φ := by
  obtain ⟨hb9, h0, h1, h2, h3, h4, h5, h6, h7, h8, h9⟩ := hS
  obtain ⟨rk, ek, -, hrk⟩ := h3 k _ _ _ hk (hR.pt hk sk)
  refine pe_go (pc := 157) rfl (s_aload rfl) ?_
  refine pe_go (pc := 159) rfl (s_iload rfl) ?_
  refine pe_go (pc := 161) rfl (s_aload_n rfl) ?_
  refine pe_go (pc := 162) rfl (s_getf (v := .ref pa) h0 rfl) ?_
  refine pe_go (pc := 165) rfl (s_iload rfl) ?_
  refine pe_go (pc := 167) rfl (s_aald h1 (k := k) (by omega) (by omega) ek) ?_
  refine pe_go (pc := 168) rfl s_ifnonnull_t ?_
  refine pe_go (pc := 175) rfl (s_iconst (z := 0) rfl) ?_
  refine pe_go (pc := 176) rfl (s_zast (n := 40) (f := f) (w' := w.set sp (.inl (2, 40, .inl (fun j => iI ((uZ f k 0) j))))) hsp (k := k) (by omega) (by omega) (by decide) (by decide) rfl) ?_
  refine pe_few (lv := [(7, .int (iI y)), (6, .int (iI x)), (5, .int (iI (k : Int))), (4, .ref sp), (3, .int (iI (top : Int))), (2, .ref v), (1, .ref t), (0, .ref a)]) rfl rfl (by intro q hq; simp only [List.mem_cons, List.not_mem_nil, or_false] at hq; rcases hq with rfl | rfl | rfl | rfl | rfl | rfl | rfl | rfl <;> rfl) ?_
  exact KK
theorem l_b157n {w : pW} {O Q : Nat → Prop} {a : Nat} {X : Sh} {pa fa ha : Nat} {pf gf hf : Nat → Option Nat} {ff : Nat → Nat} (hS : shP w O Q a X pa fa ha pf gf hf ff) {S : St} (hR : Rel S X) {t v sp top k : Nat} (hk : k < 40) (sk : ¬ S.has k) {x y : Int} {f : Nat → Int} (hsp : rowB w sp 40 f) {Φ : Option Value → pW → Prop} (KK : qE 157 (177, [(7, .int (iI y)), (6, .int (iI x)), (5, .int (iI (k : Int))), (4, .ref sp), (3, .int (iI (top : Int))), (2, .ref v), (1, .ref t), (0, .ref a)], [], w.set sp (.inl (2, 40, .inl (fun j => iI (uZ f k 1 j))))) Φ) : qE 157 (157, [(7, .int (iI y)), (6, .int (iI x)), (5, .int (iI (k : Int))), (4, .ref sp), (3, .int (iI (top : Int))), (2, .ref v), (1, .ref t), (0, .ref a)], [], w) Φ := by
  obtain ⟨hb9, h0, h1, h2, h3, h4, h5, h6, h7, h8, h9⟩ := hS
  have ek := h2 k hk (hR.no hk sk)
  refine pe_go (pc := 157) rfl (s_aload rfl) ?_
  refine pe_go (pc := 159) rfl (s_iload rfl) ?_
  refine pe_go (pc := 161) rfl (s_aload_n rfl) ?_
  refine pe_go (pc := 162) rfl (s_getf (v := .ref pa) h0 rfl) ?_
  refine pe_go (pc := 165) rfl (s_iload rfl) ?_
  refine pe_go (pc := 167) rfl (s_aaldN h1 (k := k) (by omega) (by omega) ek) ?_
  refine pe_go (pc := 168) rfl s_ifnonnull_f ?_
  refine pe_go (pc := 171) rfl (s_iconst (z := 1) rfl) ?_
  refine pe_go (pc := 172) rfl s_goto ?_
  refine pe_go (pc := 176) rfl (s_zast (n := 40) (f := f) (w' := w.set sp (.inl (2, 40, .inl (fun j => iI ((uZ f k 1) j))))) hsp (k := k) (by omega) (by omega) (by decide) (by decide) rfl) ?_
  refine pe_few (lv := [(7, .int (iI y)), (6, .int (iI x)), (5, .int (iI (k : Int))), (4, .ref sp), (3, .int (iI (top : Int))), (2, .ref v), (1, .ref t), (0, .ref a)]) rfl rfl (by intro q hq; simp only [List.mem_cons, List.not_mem_nil, or_false] at hq; rcases hq with rfl | rfl | rfl | rfl | rfl | rfl | rfl | rfl <;> rfl) ?_
  exact KK
theorem l_b177 {w : pW} {a t v sp top k : Nat} {T : St} (ht : tb w t T) {x y : Int} (hx : sm x) (hy : sm y) (hk : k < 40) (htk : T.takes x y) (hlu : T.lu = (k : Int)) {Φ : Option Value → pW → Prop} (KK : ∀ (w' : pW) (R : St), T.laid R k x y → (T.u_hs (uZ T.hs k 0)).rst R → tb w' t R → chg t w w' → qE 157 (192, [(7, .int (iI y)), (6, .int (iI x)), (5, .int (iI (k : Int))), (4, .ref sp), (3, .int (iI (top : Int))), (2, .ref v), (1, .ref t), (0, .ref a)], [], w') Φ) : qE 157 (177, [(7, .int (iI y)), (6, .int (iI x)), (5, .int (iI (k : Int))), (4, .ref sp), (3, .int (iI (top : Int))), (2, .ref v), (1, .ref t), (0, .ref a)], [], w) Φ := by
  obtain ⟨fs, hto⟩ := tb_obj ht
  refine pe_go (pc := 177) rfl (s_aload_n rfl) ?_
  refine pe_go (pc := 178) rfl (s_iload rfl) ?_
  refine pe_go (pc := 180) rfl (s_iload rfl) ?_
  refine pe_callE rfl (s_invV rfl hto rfl rfl) (t_point ht hx hy htk) ?_
  rintro _ w1 ⟨p1, R1, hl1, rfl, hla1, hrs1, ht1, hc1⟩
  have ep : p1 = k := by omega
  subst ep
  refine pe_go (pc := 185) rfl (s_iload rfl) ?_
  refine pe_go rfl (s_icmp_eq_t ⟨by omega, by omega⟩ ⟨by omega, by omega⟩ rfl) ?_
  refine pe_few (lv := [(7, .int (iI y)), (6, .int (iI x)), (5, .int (iI (p1 : Int))), (4, .ref sp), (3, .int (iI (top : Int))), (2, .ref v), (1, .ref t), (0, .ref a)]) rfl rfl (by intro q hq; simp only [List.mem_cons, List.not_mem_nil, or_false] at hq; rcases hq with rfl | rfl | rfl | rfl | rfl | rfl | rfl | rfl <;> rfl) ?_
  exact KK _ _ hla1 hrs1 ht1 hc1
theorem l_b192 {w : pW} {a t v sp top k m pv fv hv : Nat} {x y g9 : Int} (hm : w.length = m) (hvo : w[v]? = some (.inr (9, [.ref pv, .ref fv, .ref hv, .int (iI g9)]))) {Φ : Option Value → pW → Prop} (KK : qE 157 (215, [(7, .int (iI y)), (6, .int (iI x)), (5, .int (iI (k : Int))), (4, .ref sp), (3, .int (iI (top : Int))), (2, .ref v), (1, .ref t), (0, .ref a)], [.ref m, .int (iI (k : Int)), .ref pv], w ++ [.inl (0, 3, .inl (fun j => iI (row3 x y 0 j)))]) Φ) : qE 157 (192, [(7, .int (iI y)), (6, .int (iI x)), (5, .int (iI (k : Int))), (4, .ref sp), (3, .int (iI (top : Int))), (2, .ref v), (1, .ref t), (0, .ref a)], [], w) Φ := by
  refine pe_go (pc := 192) rfl (s_aload_n rfl) ?_
  refine pe_go (pc := 193) rfl (s_getf (v := .ref pv) hvo rfl) ?_
  refine pe_go (pc := 196) rfl (s_iload rfl) ?_
  refine pe_go (pc := 198) rfl (s_iconst (z := 3) rfl) ?_
  refine pe_go (pc := 199) rfl (s_newM (n := 3) hm rfl (by decide)) ?_
  refine pe_go (pc := 201) rfl (s_dup rfl) ?_
  refine pe_go (pc := 202) rfl (s_iconst (z := 0) rfl) ?_
  refine pe_go (pc := 203) rfl (s_iload rfl) ?_
  refine pe_go (pc := 205) rfl (s_iast (n := 3) (f := fun _ => (0 : Int)) (w' := w ++ [.inl (0, 3, .inl (fun j => iI ((uZ (fun _ => (0 : Int)) 0 x) j)))]) (get_end hm) (k := 0) (by omega) (by omega) (by decide) (set_end hm)) ?_
  refine pe_go (pc := 206) rfl (s_dup rfl) ?_
  refine pe_go (pc := 207) rfl (s_iconst (z := 1) rfl) ?_
  refine pe_go (pc := 208) rfl (s_iload rfl) ?_
  refine pe_go (pc := 210) rfl (s_iast (n := 3) (f := uZ (fun _ => (0 : Int)) 0 x) (w' := w ++ [.inl (0, 3, .inl (fun j => iI ((uZ (uZ (fun _ => (0 : Int)) 0 x) 1 y) j)))]) (get_end hm) (k := 1) (by omega) (by omega) (by decide) (set_end hm)) ?_
  refine pe_go (pc := 211) rfl (s_dup rfl) ?_
  refine pe_go (pc := 212) rfl (s_iconst (z := 2) rfl) ?_
  refine pe_go (pc := 213) rfl (s_iconst (z := 0) rfl) ?_
  refine pe_go (pc := 214) rfl (s_iast (n := 3) (f := uZ (uZ (fun _ => (0 : Int)) 0 x) 1 y) (w' := w ++ [.inl (0, 3, .inl (fun j => iI ((uZ (uZ (uZ (fun _ => (0 : Int)) 0 x) 1 y) 2 0) j)))]) (get_end hm) (k := 2) (by omega) (by omega) (by decide) (set_end hm)) ?_
  refine pe_few (lv := [(7, .int (iI y)), (6, .int (iI x)), (5, .int (iI (k : Int))), (4, .ref sp), (3, .int (iI (top : Int))), (2, .ref v), (1, .ref t), (0, .ref a)]) rfl rfl (by intro q hq; simp only [List.mem_cons, List.not_mem_nil, or_false] at hq; rcases hq with rfl | rfl | rfl | rfl | rfl | rfl | rfl | rfl <;> rfl) ?_
  exact KK
theorem l_b216 {w : pW} {a t v sp top k : Nat} {x y : Int} {Φ : Option Value → pW → Prop} (KK : qE 157 (48, [(5, .int (iI ((k + 1 : Nat) : Int))), (4, .ref sp), (3, .int (iI (top : Int))), (2, .ref v), (1, .ref t), (0, .ref a)], [], w) Φ) : qE 157 (216, [(7, .int (iI y)), (6, .int (iI x)), (5, .int (iI (k : Int))), (4, .ref sp), (3, .int (iI (top : Int))), (2, .ref v), (1, .ref t), (0, .ref a)], [], w) Φ := by
  refine pe_go (pc := 216) rfl (s_iinc (x := (k : Int)) (y := ((k + 1 : Nat) : Int)) rfl (by omega) (lv' := [(5, .int (iI ((k + 1 : Nat) : Int))), (7, .int (iI y)), (6, .int (iI x)), (4, .ref sp), (3, .int (iI (top : Int))), (2, .ref v), (1, .ref t), (0, .ref a)]) rfl) ?_
  refine pe_go (pc := 219) rfl s_goto ?_
  refine pe_few (lv := [(5, .int (iI ((k + 1 : Nat) : Int))), (4, .ref sp), (3, .int (iI (top : Int))), (2, .ref v), (1, .ref t), (0, .ref a)]) rfl rfl (by intro q hq; simp only [List.mem_cons, List.not_mem_nil, or_false] at hq; rcases hq with rfl | rfl | rfl | rfl | rfl | rfl <;> rfl) ?_
  exact KK
theorem l_d225x {w : pW} {a t v sp top k : Nat} (hkt : top < k ∧ k ≤ 40) {Φ : Option Value → pW → Prop} (KK : qE 157 (259, [(5, .int (iI ((0 : Nat) : Int))), (2, .ref v), (1, .ref t), (0, .ref a)], [], w) Φ) : qE 157 (225, [(5, .int (iI (k : Int))), (4, .ref sp), (3, .int (iI (top : Int))), (2, .ref v), (1, .ref t), (0, .ref a)], [], w) Φ := by
  refine pe_go (pc := 225) rfl (s_iload rfl) ?_
  refine pe_go (pc := 227) rfl (s_iload_n rfl) ?_
  refine pe_go rfl (s_icmp_gt_t ⟨by omega, by omega⟩ ⟨by omega, by omega⟩ (by omega)) ?_
  refine pe_go (pc := 256) rfl (s_iconst (z := 0) rfl) ?_
  refine pe_go (pc := 257) rfl (s_istore (lv' := [(5, .int (iI 0)), (4, .ref sp), (3, .int (iI (top : Int))), (2, .ref v), (1, .ref t), (0, .ref a)]) rfl) ?_
  refine pe_few (lv := [(5, .int (iI ((0 : Nat) : Int))), (2, .ref v), (1, .ref t), (0, .ref a)]) rfl rfl (by intro q hq; simp only [List.mem_cons, List.not_mem_nil, or_false] at hq; rcases hq with rfl | rfl | rfl | rfl <;> rfl) ?_
  exact KK
theorem l_d225n {w : pW} {a t v sp top k : Nat} (hk : k < 40) (hkt : k ≤ top ∧ top < 40) {f : Nat → Int} (hsp : rowB w sp 40 f) (hf : f k = 0) {Φ : Option Value → pW → Prop} (KK : qE 157 (225, [(5, .int (iI ((k + 1 : Nat) : Int))), (4, .ref sp), (3, .int (iI (top : Int))), (2, .ref v), (1, .ref t), (0, .ref a)], [], w) Φ) : qE 157 (225, [(5, .int (iI (k : Int))), (4, .ref sp), (3, .int (iI (top : Int))), (2, .ref v), (1, .ref t), (0, .ref a)], [], w) Φ := by
  refine pe_go (pc := 225) rfl (s_iload rfl) ?_
  refine pe_go (pc := 227) rfl (s_iload_n rfl) ?_
  refine pe_go rfl (s_icmp_gt_f ⟨by omega, by omega⟩ ⟨by omega, by omega⟩ (by omega)) ?_
  refine pe_go (pc := 231) rfl (s_aload rfl) ?_
  refine pe_go (pc := 233) rfl (s_iload rfl) ?_
  refine pe_go (pc := 235) rfl (s_zaldI (n := 40) (f := f) (v := 0) hsp (k := k) (by omega) (by omega) (by decide) hf) ?_
  refine pe_go rfl (s_if_eq_t ⟨by decide, by decide⟩ (by decide)) ?_
  refine pe_go (pc := 250) rfl (s_iinc (x := (k : Int)) (y := ((k + 1 : Nat) : Int)) rfl (by omega) (lv' := [(5, .int (iI ((k + 1 : Nat) : Int))), (4, .ref sp), (3, .int (iI (top : Int))), (2, .ref v), (1, .ref t), (0, .ref a)]) rfl) ?_
  refine pe_go (pc := 253) rfl s_goto ?_
  refine pe_few (lv := [(5, .int (iI ((k + 1 : Nat) : Int))), (4, .ref sp), (3, .int (iI (top : Int))), (2, .ref v), (1, .ref t), (0, .ref a)]) rfl rfl (by intro q hq; simp only [List.mem_cons, List.not_mem_nil, or_false] at hq; rcases hq with rfl | rfl | rfl | rfl | rfl | rfl <;> rfl) ?_
  exact KK
theorem l_d225y {w : pW} {a t v sp top k : Nat} (hk : k < 40) (hkt : k ≤ top ∧ top < 40) {f : Nat → Int} (hsp : rowB w sp 40 f) (hf : f k = 1) {T : St} (ht : tb w t T) (tk : T.has k) (hz : T.fx k = lI 0) {Φ : Option Value → pW → Prop} (KK : ∀ (w' : pW) (R : St), (R.xs = T.xs ∧ R.ys = T.ys ∧ R.th = bClr T.th k ∧ R.fx = T.fx) → T.rst R → tb w' t R → chg t w w' → qE 157 (225, [(5, .int (iI ((k + 1 : Nat) : Int))), (4, .ref sp), (3, .int (iI (top : Int))), (2, .ref v), (1, .ref t), (0, .ref a)], [], w') Φ) : qE 157 (225, [(5, .int (iI (k : Int))), (4, .ref sp), (3, .int (iI (top : Int))), (2, .ref v), (1, .ref t), (0, .ref a)], [], w) Φ := by
  obtain ⟨fs, hto⟩ := tb_obj ht
  refine pe_go (pc := 225) rfl (s_iload rfl) ?_
  refine pe_go (pc := 227) rfl (s_iload_n rfl) ?_
  refine pe_go rfl (s_icmp_gt_f ⟨by omega, by omega⟩ ⟨by omega, by omega⟩ (by omega)) ?_
  refine pe_go (pc := 231) rfl (s_aload rfl) ?_
  refine pe_go (pc := 233) rfl (s_iload rfl) ?_
  refine pe_go (pc := 235) rfl (s_zaldI (n := 40) (f := f) (v := 1) hsp (k := k) (by omega) (by omega) (by decide) hf) ?_
  refine pe_go rfl (s_if_eq_f ⟨by decide, by decide⟩ (by decide)) ?_
  refine pe_go (pc := 239) rfl (s_aload_n rfl) ?_
  refine pe_go (pc := 240) rfl (s_iload rfl) ?_
  refine pe_callE rfl (s_invV rfl hto rfl rfl) (t_drop ht hk tk hz) ?_
  rintro _ w1 ⟨rfl, R1, hr1, hrs1, ht1, hc1⟩
  refine pe_go rfl (s_ifne_true rfl) ?_
  refine pe_go (pc := 250) rfl (s_iinc (x := (k : Int)) (y := ((k + 1 : Nat) : Int)) rfl (by omega) (lv' := [(5, .int (iI ((k + 1 : Nat) : Int))), (4, .ref sp), (3, .int (iI (top : Int))), (2, .ref v), (1, .ref t), (0, .ref a)]) rfl) ?_
  refine pe_go (pc := 253) rfl s_goto ?_
  refine pe_few (lv := [(5, .int (iI ((k + 1 : Nat) : Int))), (4, .ref sp), (3, .int (iI (top : Int))), (2, .ref v), (1, .ref t), (0, .ref a)]) rfl rfl (by intro q hq; simp only [List.mem_cons, List.not_mem_nil, or_false] at hq; rcases hq with rfl | rfl | rfl | rfl | rfl | rfl <;> rfl) ?_
  exact KK _ _ hr1 hrs1 ht1 hc1
theorem l_f259 {w : pW} {a t v p : Nat} (hp : p < 40) {Φ : Option Value → pW → Prop} (KK : qE 157 (269, [(6, .int (iI ((0 : Nat) : Int))), (5, .int (iI (p : Int))), (2, .ref v), (1, .ref t), (0, .ref a)], [], w) Φ) : qE 157 (259, [(5, .int (iI (p : Int))), (2, .ref v), (1, .ref t), (0, .ref a)], [], w) Φ := by
  refine pe_go (pc := 259) rfl (s_iload rfl) ?_
  refine pe_go (pc := 261) rfl (s_bipush (z := 40) rfl) ?_
  refine pe_go rfl (s_icmp_ge_f ⟨by omega, by omega⟩ ⟨by decide, by decide⟩ (by omega)) ?_
  refine pe_go (pc := 266) rfl (s_iconst (z := 0) rfl) ?_
  refine pe_go (pc := 267) rfl (s_istore (lv' := [(6, .int (iI 0)), (5, .int (iI (p : Int))), (2, .ref v), (1, .ref t), (0, .ref a)]) rfl) ?_
  refine pe_few (lv := [(6, .int (iI ((0 : Nat) : Int))), (5, .int (iI (p : Int))), (2, .ref v), (1, .ref t), (0, .ref a)]) rfl rfl (by intro q hq; simp only [List.mem_cons, List.not_mem_nil, or_false] at hq; rcases hq with rfl | rfl | rfl | rfl | rfl <;> rfl) ?_
  exact KK
theorem l_f259x {w : pW} {a t v : Nat} {Φ : Option Value → pW → Prop} (KK : qE 157 (318, [(5, .int (iI ((0 : Nat) : Int))), (2, .ref v), (1, .ref t), (0, .ref a)], [], w) Φ) : qE 157 (259, [(5, .int (iI ((40 : Nat) : Int))), (2, .ref v), (1, .ref t), (0, .ref a)], [], w) Φ := by
  refine pe_go (pc := 259) rfl (s_iload rfl) ?_
  refine pe_go (pc := 261) rfl (s_bipush (z := 40) rfl) ?_
  refine pe_go rfl (s_icmp_ge_t ⟨by omega, by omega⟩ ⟨by decide, by decide⟩ (by decide)) ?_
  refine pe_go (pc := 315) rfl (s_iconst (z := 0) rfl) ?_
  refine pe_go (pc := 316) rfl (s_istore (lv' := [(5, .int (iI 0)), (2, .ref v), (1, .ref t), (0, .ref a)]) rfl) ?_
  refine pe_few (lv := [(5, .int (iI ((0 : Nat) : Int))), (2, .ref v), (1, .ref t), (0, .ref a)]) rfl rfl (by intro q hq; simp only [List.mem_cons, List.not_mem_nil, or_false] at hq; rcases hq with rfl | rfl | rfl | rfl <;> rfl) ?_
  exact KK
theorem l_f269x {w : pW} {a t v p : Nat} (hp : p < 40) {Φ : Option Value → pW → Prop} (KK : qE 157 (259, [(5, .int (iI ((p + 1 : Nat) : Int))), (2, .ref v), (1, .ref t), (0, .ref a)], [], w) Φ) : qE 157 (269, [(6, .int (iI (p : Int))), (5, .int (iI (p : Int))), (2, .ref v), (1, .ref t), (0, .ref a)], [], w) Φ := by
  refine pe_go (pc := 269) rfl (s_iload rfl) ?_
  refine pe_go (pc := 271) rfl (s_iload rfl) ?_
  refine pe_go rfl (s_icmp_ge_t ⟨by omega, by omega⟩ ⟨by omega, by omega⟩ (Int.le_refl _)) ?_
  refine pe_go (pc := 309) rfl (s_iinc (x := (p : Int)) (y := ((p + 1 : Nat) : Int)) rfl (by omega) (lv' := [(5, .int (iI ((p + 1 : Nat) : Int))), (6, .int (iI (p : Int))), (2, .ref v), (1, .ref t), (0, .ref a)]) rfl) ?_
  refine pe_go (pc := 312) rfl s_goto ?_
  refine pe_few (lv := [(5, .int (iI ((p + 1 : Nat) : Int))), (2, .ref v), (1, .ref t), (0, .ref a)]) rfl rfl (by intro q hq; simp only [List.mem_cons, List.not_mem_nil, or_false] at hq; rcases hq with rfl | rfl | rfl | rfl <;> rfl) ?_
  exact KK
theorem l_f269n {w : pW} {O Q : Nat → Prop} {a : Nat} {X : Sh} {pa fa ha : Nat} {pf gf hf : Nat → Option Nat} {ff : Nat → Nat} (hS : shP w O Q a X pa fa ha pf gf hf ff) {S : St} (hR : Rel S X) {t v p q : Nat} (hp : p < 40) (hqp : q < p) (hh : X.2.1 p q ≠ 1) (hb : 0 ≤ X.2.1 p q ∧ X.2.1 p q ≤ 2) {Φ : Option Value → pW → Prop} (KK : qE 157 (269, [(6, .int (iI ((q + 1 : Nat) : Int))), (5, .int (iI (p : Int))), (2, .ref v), (1, .ref t), (0, .ref a)], [], w) Φ) : qE 157 (269, [(6, .int (iI (q : Int))), (5, .int (iI (p : Int))), (2, .ref v), (1, .ref t), (0, .ref a)], [], w) Φ := by
  obtain ⟨hb9, h0, h1, h2, h3, h4, h5, h6, h7, h8, h9⟩ := hS
  obtain ⟨efp, -, hfp⟩ := h5 p hp
  refine pe_go (pc := 269) rfl (s_iload rfl) ?_
  refine pe_go (pc := 271) rfl (s_iload rfl) ?_
  refine pe_go rfl (s_icmp_ge_f ⟨by omega, by omega⟩ ⟨by omega, by omega⟩ (by omega)) ?_
  refine pe_go (pc := 276) rfl (s_aload_n rfl) ?_
  refine pe_go (pc := 277) rfl (s_getf (v := .ref fa) h0 rfl) ?_
  refine pe_go (pc := 280) rfl (s_iload rfl) ?_
  refine pe_go (pc := 282) rfl (s_aald h4 (k := p) (by omega) (by omega) efp) ?_
  refine pe_go (pc := 283) rfl (s_iload rfl) ?_
  refine pe_go (pc := 285) rfl (s_iald (n := 40) (f := X.2.1 p) (v := X.2.1 p q) hfp (k := q) (by omega) (by omega) (by decide) rfl) ?_
  refine pe_go (pc := 286) rfl (s_iconst (z := 1) rfl) ?_
  refine pe_go rfl (s_icmp_ne_t ⟨by omega, by omega⟩ ⟨by decide, by decide⟩ hh) ?_
  refine pe_go (pc := 303) rfl (s_iinc (x := (q : Int)) (y := ((q + 1 : Nat) : Int)) rfl (by omega) (lv' := [(6, .int (iI ((q + 1 : Nat) : Int))), (5, .int (iI (p : Int))), (2, .ref v), (1, .ref t), (0, .ref a)]) rfl) ?_
  refine pe_go (pc := 306) rfl s_goto ?_
  refine pe_few (lv := [(6, .int (iI ((q + 1 : Nat) : Int))), (5, .int (iI (p : Int))), (2, .ref v), (1, .ref t), (0, .ref a)]) rfl rfl (by intro q hq; simp only [List.mem_cons, List.not_mem_nil, or_false] at hq; rcases hq with rfl | rfl | rfl | rfl | rfl <;> rfl) ?_
  exact KK
theorem l_f269y {w : pW} {O Q : Nat → Prop} {a : Nat} {X : Sh} {pa fa ha : Nat} {pf gf hf : Nat → Option Nat} {ff : Nat → Nat} (hS : shP w O Q a X pa fa ha pf gf hf ff) {S : St} (hR : Rel S X) {t v p q : Nat} (hp : p < 40) (hqp : q < p) (hh : X.2.1 p q = 1) {T : St} (ht : tb w t T) {E : Nat} (hE : T.ec = (E : Int)) (hE2 : E ≤ 113) (hsi : T.sight p q E) (hnb : ¬ T.bound p q) {Φ : Option Value → pW → Prop} (KK : ∀ (w' : pW) (R : St), (R.xs = T.xs ∧ R.ys = T.ys ∧ R.th = T.th ∧ ∀ x y : Nat, R.bound x y ↔ T.bound x y ∨ eU p q x y) → T.rst R → tb w' t R → chg t w w' → qE 157 (269, [(6, .int (iI ((q + 1 : Nat) : Int))), (5, .int (iI (p : Int))), (2, .ref v), (1, .ref t), (0, .ref a)], [], w') Φ) : qE 157 (269, [(6, .int (iI (q : Int))), (5, .int (iI (p : Int))), (2, .ref v), (1, .ref t), (0, .ref a)], [], w) Φ := by
  obtain ⟨hb9, h0, h1, h2, h3, h4, h5, h6, h7, h8, h9⟩ := hS
  obtain ⟨efp, -, hfp⟩ := h5 p hp
  obtain ⟨fs, hto⟩ := tb_obj ht
  refine pe_go (pc := 269) rfl (s_iload rfl) ?_
  refine pe_go (pc := 271) rfl (s_iload rfl) ?_
  refine pe_go rfl (s_icmp_ge_f ⟨by omega, by omega⟩ ⟨by omega, by omega⟩ (by omega)) ?_
  refine pe_go (pc := 276) rfl (s_aload_n rfl) ?_
  refine pe_go (pc := 277) rfl (s_getf (v := .ref fa) h0 rfl) ?_
  refine pe_go (pc := 280) rfl (s_iload rfl) ?_
  refine pe_go (pc := 282) rfl (s_aald h4 (k := p) (by omega) (by omega) efp) ?_
  refine pe_go (pc := 283) rfl (s_iload rfl) ?_
  refine pe_go (pc := 285) rfl (s_iald (n := 40) (f := X.2.1 p) (v := 1) hfp (k := q) (by omega) (by omega) (by decide) hh) ?_
  refine pe_go (pc := 286) rfl (s_iconst (z := 1) rfl) ?_
  refine pe_go rfl (s_icmp_ne_f ⟨by decide, by decide⟩ ⟨by decide, by decide⟩ (by decide)) ?_
  refine pe_go (pc := 290) rfl (s_aload_n rfl) ?_
  refine pe_go (pc := 291) rfl (s_iload rfl) ?_
  refine pe_go (pc := 293) rfl (s_iload rfl) ?_
  refine pe_callE rfl (s_invV rfl hto rfl rfl) (t_fix ht hp (by omega) hE hE2 hsi hnb) ?_
  rintro _ w1 ⟨rfl, R1, hr1, hrs1, ht1, hc1⟩
  refine pe_go rfl (s_ifne_true rfl) ?_
  refine pe_go (pc := 303) rfl (s_iinc (x := (q : Int)) (y := ((q + 1 : Nat) : Int)) rfl (by omega) (lv' := [(6, .int (iI ((q + 1 : Nat) : Int))), (5, .int (iI (p : Int))), (2, .ref v), (1, .ref t), (0, .ref a)]) rfl) ?_
  refine pe_go (pc := 306) rfl s_goto ?_
  refine pe_few (lv := [(6, .int (iI ((q + 1 : Nat) : Int))), (5, .int (iI (p : Int))), (2, .ref v), (1, .ref t), (0, .ref a)]) rfl rfl (by intro q hq; simp only [List.mem_cons, List.not_mem_nil, or_false] at hq; rcases hq with rfl | rfl | rfl | rfl | rfl <;> rfl) ?_
  exact KK _ _ hr1 hrs1 ht1 hc1
theorem l_h318x {w : pW} {a t v : Nat} {Φ : Option Value → pW → Prop} (KK : qE 157 (373, [(2, .ref v), (1, .ref t), (0, .ref a)], [], w) Φ) : qE 157 (318, [(5, .int (iI ((40 : Nat) : Int))), (2, .ref v), (1, .ref t), (0, .ref a)], [], w) Φ := by
  refine pe_go (pc := 318) rfl (s_iload rfl) ?_
  refine pe_go (pc := 320) rfl (s_bipush (z := 40) rfl) ?_
  refine pe_go rfl (s_icmp_ge_t ⟨by omega, by omega⟩ ⟨by decide, by decide⟩ (by decide)) ?_
  refine pe_few (lv := [(2, .ref v), (1, .ref t), (0, .ref a)]) rfl rfl (by intro q hq; simp only [List.mem_cons, List.not_mem_nil, or_false] at hq; rcases hq with rfl | rfl | rfl <;> rfl) ?_
  exact KK
theorem l_h318n {w : pW} {O Q : Nat → Prop} {a : Nat} {X : Sh} {pa fa ha : Nat} {pf gf hf : Nat → Option Nat} {ff : Nat → Nat} (hS : shP w O Q a X pa fa ha pf gf hf ff) {S : St} (hR : Rel S X) {t v k : Nat} (hk : k < 40) (sk : ¬ S.has k) {Φ : Option Value → pW → Prop} (KK : qE 157 (318, [(5, .int (iI ((k + 1 : Nat) : Int))), (2, .ref v), (1, .ref t), (0, .ref a)], [], w) Φ) : qE 157 (318, [(5, .int (iI (k : Int))), (2, .ref v), (1, .ref t), (0, .ref a)], [], w) Φ := by
  obtain ⟨hb9, h0, h1, h2, h3, h4, h5, h6, h7, h8, h9⟩ := hS
  have ek := h2 k hk (hR.no hk sk)
  refine pe_go (pc := 318) rfl (s_iload rfl) ?_
  refine pe_go (pc := 320) rfl (s_bipush (z := 40) rfl) ?_
  refine pe_go rfl (s_icmp_ge_f ⟨by omega, by omega⟩ ⟨by decide, by decide⟩ (by omega)) ?_
  refine pe_go (pc := 325) rfl (s_aload_n rfl) ?_
  refine pe_go (pc := 326) rfl (s_getf (v := .ref pa) h0 rfl) ?_
  refine pe_go (pc := 329) rfl (s_iload rfl) ?_
  refine pe_go (pc := 331) rfl (s_aaldN h1 (k := k) (by omega) (by omega) ek) ?_
  refine pe_go (pc := 332) rfl s_ifnull_t ?_
  refine pe_go (pc := 367) rfl (s_iinc (x := (k : Int)) (y := ((k + 1 : Nat) : Int)) rfl (by omega) (lv' := [(5, .int (iI ((k + 1 : Nat) : Int))), (2, .ref v), (1, .ref t), (0, .ref a)]) rfl) ?_
  refine pe_go (pc := 370) rfl s_goto ?_
  refine pe_few (lv := [(5, .int (iI ((k + 1 : Nat) : Int))), (2, .ref v), (1, .ref t), (0, .ref a)]) rfl rfl (by intro q hq; simp only [List.mem_cons, List.not_mem_nil, or_false] at hq; rcases hq with rfl | rfl | rfl | rfl <;> rfl) ?_
  exact KK
theorem l_h318z {w : pW} {O Q : Nat → Prop} {a : Nat} {X : Sh} {pa fa ha : Nat} {pf gf hf : Nat → Option Nat} {ff : Nat → Nat} (hS : shP w O Q a X pa fa ha pf gf hf ff) {S : St} (hR : Rel S X) {t v k : Nat} (hk : k < 40) (sk : S.has k) (hz : S.hs k = 0) {Φ : Option Value → pW → Prop} (KK : qE 157 (318, [(5, .int (iI ((k + 1 : Nat) : Int))), (2, .ref v), (1, .ref t), (0, .ref a)], [], w) Φ) : qE 157 (318, [(5, .int (iI (k : Int))), (2, .ref v), (1, .ref t), (0, .ref a)], [], w) Φ := by
  obtain ⟨hb9, h0, h1, h2, h3, h4, h5, h6, h7, h8, h9⟩ := hS
  obtain ⟨rk, ek, -, hrk⟩ := h3 k _ _ _ hk (hR.pt hk sk)
  refine pe_go (pc := 318) rfl (s_iload rfl) ?_
  refine pe_go (pc := 320) rfl (s_bipush (z := 40) rfl) ?_
  refine pe_go rfl (s_icmp_ge_f ⟨by omega, by omega⟩ ⟨by decide, by decide⟩ (by omega)) ?_
  refine pe_go (pc := 325) rfl (s_aload_n rfl) ?_
  refine pe_go (pc := 326) rfl (s_getf (v := .ref pa) h0 rfl) ?_
  refine pe_go (pc := 329) rfl (s_iload rfl) ?_
  refine pe_go (pc := 331) rfl (s_aald h1 (k := k) (by omega) (by omega) ek) ?_
  refine pe_go (pc := 332) rfl s_ifnull_f ?_
  refine pe_go (pc := 335) rfl (s_aload_n rfl) ?_
  refine pe_go (pc := 336) rfl (s_getf (v := .ref pa) h0 rfl) ?_
  refine pe_go (pc := 339) rfl (s_iload rfl) ?_
  refine pe_go (pc := 341) rfl (s_aald h1 (k := k) (by omega) (by omega) ek) ?_
  refine pe_go (pc := 342) rfl (s_iconst (z := 2) rfl) ?_
  refine pe_go (pc := 343) rfl (s_iald (n := 3) (f := row3 (S.xs k) (S.ys k) (S.hs k)) (v := 0) hrk (k := 2) (by omega) (by omega) (by decide) hz) ?_
  refine pe_go rfl (s_if_eq_t ⟨by decide, by decide⟩ (by decide)) ?_
  refine pe_go (pc := 367) rfl (s_iinc (x := (k : Int)) (y := ((k + 1 : Nat) : Int)) rfl (by omega) (lv' := [(5, .int (iI ((k + 1 : Nat) : Int))), (2, .ref v), (1, .ref t), (0, .ref a)]) rfl) ?_
  refine pe_go (pc := 370) rfl s_goto ?_
  refine pe_few (lv := [(5, .int (iI ((k + 1 : Nat) : Int))), (2, .ref v), (1, .ref t), (0, .ref a)]) rfl rfl (by intro q hq; simp only [List.mem_cons, List.not_mem_nil, or_false] at hq; rcases hq with rfl | rfl | rfl | rfl <;> rfl) ?_
  exact KK
theorem l_h318y {w : pW} {O Q : Nat → Prop} {a : Nat} {X : Sh} {pa fa ha : Nat} {pf gf hf : Nat → Option Nat} {ff : Nat → Nat} (hS : shP w O Q a X pa fa ha pf gf hf ff) {S : St} (hR : Rel S X) {t v k : Nat} (hk : k < 40) (sk : S.has k) (hz : S.hs k ≠ 0) (hb : -9999 ≤ S.hs k ∧ S.hs k ≤ 9999) {T : St} (ht : tb w t T) (tk : T.has k) {Φ : Option Value → pW → Prop} (KK : ∀ w' : pW, tb w' t (T.u_hs (uZ T.hs k (S.hs k))) → chg t w w' → qE 157 (318, [(5, .int (iI ((k + 1 : Nat) : Int))), (2, .ref v), (1, .ref t), (0, .ref a)], [], w') Φ) : qE 157 (318, [(5, .int (iI (k : Int))), (2, .ref v), (1, .ref t), (0, .ref a)], [], w) Φ := by
  obtain ⟨fs, hto⟩ := tb_obj ht
  obtain ⟨hb9, h0, h1, h2, h3, h4, h5, h6, h7, h8, h9⟩ := hS
  obtain ⟨rk, ek, -, hrk⟩ := h3 k _ _ _ hk (hR.pt hk sk)
  refine pe_go (pc := 318) rfl (s_iload rfl) ?_
  refine pe_go (pc := 320) rfl (s_bipush (z := 40) rfl) ?_
  refine pe_go rfl (s_icmp_ge_f ⟨by omega, by omega⟩ ⟨by decide, by decide⟩ (by omega)) ?_
  refine pe_go (pc := 325) rfl (s_aload_n rfl) ?_
  refine pe_go (pc := 326) rfl (s_getf (v := .ref pa) h0 rfl) ?_
  refine pe_go (pc := 329) rfl (s_iload rfl) ?_
  refine pe_go (pc := 331) rfl (s_aald h1 (k := k) (by omega) (by omega) ek) ?_
  refine pe_go (pc := 332) rfl s_ifnull_f ?_
  refine pe_go (pc := 335) rfl (s_aload_n rfl) ?_
  refine pe_go (pc := 336) rfl (s_getf (v := .ref pa) h0 rfl) ?_
  refine pe_go (pc := 339) rfl (s_iload rfl) ?_
  refine pe_go (pc := 341) rfl (s_aald h1 (k := k) (by omega) (by omega) ek) ?_
  refine pe_go (pc := 342) rfl (s_iconst (z := 2) rfl) ?_
  refine pe_go (pc := 343) rfl (s_iald (n := 3) (f := row3 (S.xs k) (S.ys k) (S.hs k)) (v := S.hs k) hrk (k := 2) (by omega) (by omega) (by decide) rfl) ?_
  refine pe_go rfl (s_if_eq_f ⟨by omega, by omega⟩ hz) ?_
  refine pe_go (pc := 347) rfl (s_aload_n rfl) ?_
  refine pe_go (pc := 348) rfl (s_iload rfl) ?_
  refine pe_go (pc := 350) rfl (s_aload_n rfl) ?_
  refine pe_go (pc := 351) rfl (s_getf (v := .ref pa) h0 rfl) ?_
  refine pe_go (pc := 354) rfl (s_iload rfl) ?_
  refine pe_go (pc := 356) rfl (s_aald h1 (k := k) (by omega) (by omega) ek) ?_
  refine pe_go (pc := 357) rfl (s_iconst (z := 2) rfl) ?_
  refine pe_go (pc := 358) rfl (s_iald (n := 3) (f := row3 (S.xs k) (S.ys k) (S.hs k)) (v := S.hs k) hrk (k := 2) (by omega) (by omega) (by decide) rfl) ?_
  refine pe_callE rfl (s_invV rfl hto rfl rfl) (t_height ht hk tk hb.1 hb.2) ?_
  rintro _ w1 ⟨rfl, ht1, hc1⟩
  refine pe_go rfl (s_ifne_true rfl) ?_
  refine pe_go (pc := 367) rfl (s_iinc (x := (k : Int)) (y := ((k + 1 : Nat) : Int)) rfl (by omega) (lv' := [(5, .int (iI ((k + 1 : Nat) : Int))), (2, .ref v), (1, .ref t), (0, .ref a)]) rfl) ?_
  refine pe_go (pc := 370) rfl s_goto ?_
  refine pe_few (lv := [(5, .int (iI ((k + 1 : Nat) : Int))), (2, .ref v), (1, .ref t), (0, .ref a)]) rfl rfl (by intro q hq; simp only [List.mem_cons, List.not_mem_nil, or_false] at hq; rcases hq with rfl | rfl | rfl | rfl <;> rfl) ?_
  exact KK _ ht1 hc1
theorem l_o373 {w : pW} {O Q : Nat → Prop} {a : Nat} {X : Sh} {pa fa ha : Nat} {pf gf hf : Nat → Option Nat} {ff : Nat → Nat} (hS : shP w O Q a X pa fa ha pf gf hf ff) {S : St} (hR : Rel S X) {t v : Nat} {Φ : Option Value → pW → Prop} (KK : qE 157 (387, [(7, .int (iI ((0 : Nat) : Int))), (6, .int (iI ((X.2.2.1 : Nat) : Int))), (5, .ref ha), (2, .ref v), (1, .ref t), (0, .ref a)], [], w) Φ) : qE 157 (373, [(2, .ref v), (1, .ref t), (0, .ref a)], [], w) Φ := by
  obtain ⟨hb9, h0, h1, h2, h3, h4, h5, h6, h7, h8, h9⟩ := hS
  refine pe_go (pc := 373) rfl (s_aload_n rfl) ?_
  refine pe_go (pc := 374) rfl (s_getf (v := .ref ha) h0 rfl) ?_
  refine pe_go (pc := 377) rfl (s_astore (lv' := [(5, .ref ha), (2, .ref v), (1, .ref t), (0, .ref a)]) rfl) ?_
  refine pe_go (pc := 379) rfl (s_aload rfl) ?_
  refine pe_go (pc := 381) rfl (s_alenR (kd := 0) ⟨h7, by decide⟩) ?_
  refine pe_go (pc := 382) rfl (s_istore (lv' := [(6, .int (iI ((X.2.2.1 : Nat) : Int))), (5, .ref ha), (2, .ref v), (1, .ref t), (0, .ref a)]) rfl) ?_
  refine pe_go (pc := 384) rfl (s_iconst (z := 0) rfl) ?_
  refine pe_go (pc := 385) rfl (s_istore (lv' := [(7, .int (iI 0)), (6, .int (iI ((X.2.2.1 : Nat) : Int))), (5, .ref ha), (2, .ref v), (1, .ref t), (0, .ref a)]) rfl) ?_
  refine pe_few (lv := [(7, .int (iI ((0 : Nat) : Int))), (6, .int (iI ((X.2.2.1 : Nat) : Int))), (5, .ref ha), (2, .ref v), (1, .ref t), (0, .ref a)]) rfl rfl (by intro q hq; simp only [List.mem_cons, List.not_mem_nil, or_false] at hq; rcases hq with rfl | rfl | rfl | rfl | rfl | rfl <;> rfl) ?_
  exact KK
theorem l_o387x {w : pW} {a t v ha : Nat} {X : Sh} (hX8 : X.2.2.1 ≤ 8) {Φ : Option Value → pW → Prop} (KK : qE 157 (424, [(2, .ref v), (1, .ref t), (0, .ref a)], [], w) Φ) : qE 157 (387, [(7, .int (iI ((X.2.2.1 : Nat) : Int))), (6, .int (iI ((X.2.2.1 : Nat) : Int))), (5, .ref ha), (2, .ref v), (1, .ref t), (0, .ref a)], [], w) Φ := by
  refine pe_go (pc := 387) rfl (s_iload rfl) ?_
  refine pe_go (pc := 389) rfl (s_iload rfl) ?_
  refine pe_go rfl (s_icmp_ge_t ⟨by omega, by omega⟩ ⟨by omega, by omega⟩ (Int.le_refl _)) ?_
  refine pe_few (lv := [(2, .ref v), (1, .ref t), (0, .ref a)]) rfl rfl (by intro q hq; simp only [List.mem_cons, List.not_mem_nil, or_false] at hq; rcases hq with rfl | rfl | rfl <;> rfl) ?_
  exact KK
theorem l_o387y {w : pW} {O Q : Nat → Prop} {a : Nat} {X : Sh} {pa fa ha : Nat} {pf gf hf : Nat → Option Nat} {ff : Nat → Nat} (hS : shP w O Q a X pa fa ha pf gf hf ff) {S : St} (hR : Rel S X) {t v k : Nat} (hk : k < X.2.2.1) {T : St} (ht : tb w t T) (hn : T.hn = (k : Int)) {Φ : Option Value → pW → Prop} (KK : ∀ (w' : pW) (f1 f2 : Nat → Int), tb w' t (((T.u_hx f1).u_hy f2).u_hn ((k : Int) + 1)) → chg t w w' → qE 157 (387, [(7, .int (iI ((k + 1 : Nat) : Int))), (6, .int (iI ((X.2.2.1 : Nat) : Int))), (5, .ref ha), (2, .ref v), (1, .ref t), (0, .ref a)], [], w') Φ) : qE 157 (387, [(7, .int (iI (k : Int))), (6, .int (iI ((X.2.2.1 : Nat) : Int))), (5, .ref ha), (2, .ref v), (1, .ref t), (0, .ref a)], [], w) Φ := by
  obtain ⟨fs, hto⟩ := tb_obj ht
  obtain ⟨hb9, h0, h1, h2, h3, h4, h5, h6, h7, h8, h9⟩ := hS
  obtain ⟨rh, hx, hy, erh, -, hrh, hin⟩ := h9 k hk
  have hcall := t_hole ht hin (by omega)
  rw [hn] at hcall
  refine pe_go (pc := 387) rfl (s_iload rfl) ?_
  refine pe_go (pc := 389) rfl (s_iload rfl) ?_
  refine pe_go rfl (s_icmp_ge_f ⟨by omega, by omega⟩ ⟨by omega, by omega⟩ (by omega)) ?_
  refine pe_go (pc := 394) rfl (s_aload rfl) ?_
  refine pe_go (pc := 396) rfl (s_iload rfl) ?_
  refine pe_go (pc := 398) rfl (s_aald h7 (k := k) (by omega) (by omega) erh) ?_
  refine pe_go (pc := 399) rfl (s_astore (lv' := [(8, .ref rh), (7, .int (iI (k : Int))), (6, .int (iI ((X.2.2.1 : Nat) : Int))), (5, .ref ha), (2, .ref v), (1, .ref t), (0, .ref a)]) rfl) ?_
  refine pe_go (pc := 401) rfl (s_aload_n rfl) ?_
  refine pe_go (pc := 402) rfl (s_aload rfl) ?_
  refine pe_go (pc := 404) rfl (s_iconst (z := 0) rfl) ?_
  refine pe_go (pc := 405) rfl (s_iald (n := 2) (f := row2 hx hy) (v := hx) hrh (k := 0) (by omega) (by omega) (by decide) rfl) ?_
  refine pe_go (pc := 406) rfl (s_aload rfl) ?_
  refine pe_go (pc := 408) rfl (s_iconst (z := 1) rfl) ?_
  refine pe_go (pc := 409) rfl (s_iald (n := 2) (f := row2 hx hy) (v := hy) hrh (k := 1) (by omega) (by omega) (by decide) rfl) ?_
  refine pe_callE rfl (s_invV rfl hto rfl rfl) (hcall) ?_
  rintro _ w1 ⟨rfl, ht1, hc1⟩
  refine pe_go rfl (s_if_ge_t ⟨by omega, by omega⟩ (by omega)) ?_
  refine pe_go (pc := 418) rfl (s_iinc (x := (k : Int)) (y := ((k + 1 : Nat) : Int)) rfl (by omega) (lv' := [(7, .int (iI ((k + 1 : Nat) : Int))), (8, .ref rh), (6, .int (iI ((X.2.2.1 : Nat) : Int))), (5, .ref ha), (2, .ref v), (1, .ref t), (0, .ref a)]) rfl) ?_
  refine pe_go (pc := 421) rfl s_goto ?_
  refine pe_few (lv := [(7, .int (iI ((k + 1 : Nat) : Int))), (6, .int (iI ((X.2.2.1 : Nat) : Int))), (5, .ref ha), (2, .ref v), (1, .ref t), (0, .ref a)]) rfl rfl (by intro q hq; simp only [List.mem_cons, List.not_mem_nil, or_false] at hq; rcases hq with rfl | rfl | rfl | rfl | rfl | rfl <;> rfl) ?_
  exact KK _ _ _ ht1 hc1
theorem l_b424 {w : pW} {O Q : Nat → Prop} {a : Nat} {X : Sh} {pa fa ha : Nat} {pf gf hf : Nat → Option Nat} {ff : Nat → Nat} (hS : shP w O Q a X pa fa ha pf gf hf ff) {S : St} (hR : Rel S X) {t v : Nat} {T : St} (ht : tb w t T) (hg : 0 ≤ X.2.2.2 ∧ X.2.2.2 < 30047) {Φ : Option Value → pW → Prop} (KK : ∀ w' : pW, tb w' t (T.u_g X.2.2.2) → chg t w w' → Φ (some (.ref t)) w') : qE 157 (424, [(2, .ref v), (1, .ref t), (0, .ref a)], [], w) Φ := by
  obtain ⟨fs, hto⟩ := tb_obj ht
  obtain ⟨hb9, h0, h1, h2, h3, h4, h5, h6, h7, h8, h9⟩ := hS
  refine pe_go (pc := 424) rfl (s_aload_n rfl) ?_
  refine pe_go (pc := 425) rfl (s_aload_n rfl) ?_
  refine pe_go (pc := 426) rfl (s_getf (v := .int (iI X.2.2.2)) h0 rfl) ?_
  refine pe_callE rfl (s_invV rfl hto rfl rfl) (t_tell ht hg.1 hg.2) ?_
  rintro _ w1 ⟨rfl, ht1, hc1⟩
  refine pe_go rfl (s_ifeq_true rfl) ?_
  refine pe_go (pc := 435) rfl (s_aload_n rfl) ?_
  refine pe_go (pc := 436) rfl s_goto ?_
  exact pe_ret rfl s_reta (KK _ ht1 hc1)
