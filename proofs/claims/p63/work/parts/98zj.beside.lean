/-! THE LAW: a mesh beside another, whole. By hand. -/
theorem Sh.room (X V : Sh) (x0 y : Int) : ∃ i : Nat, i ≤ 80 ∧ (X.at (x0 + i) y < 0 ∧ V.at (x0 + i) y < 0) ∧ ∀ j : Nat, j < i → ¬ (X.at (x0 + j) y < 0 ∧ V.at (x0 + j) y < 0) := by
  have hex : ∃ i : Nat, i ≤ 80 ∧ (X.at (x0 + i) y < 0 ∧ V.at (x0 + i) y < 0) := by
    apply Classical.byContradiction
    intro hno
    have hf : ∀ i : Nat, ∃ n : Nat, i ≤ 80 → n < 80 ∧ ((n < 40 ∧ X.isAt n (x0 + i) y) ∨ (40 ≤ n ∧ V.isAt (n - 40) (x0 + i) y)) := by
      intro i
      by_cases hi : i ≤ 80
      · rcases X.at_ok (x0 + i) y with ⟨z, -⟩ | ⟨q, q1, -, q3⟩
        · rcases V.at_ok (x0 + i) y with ⟨z2, -⟩ | ⟨q, q1, -, q3⟩
          · exact absurd ⟨i, hi, by omega, by omega⟩ hno
          · exact ⟨40 + q, fun _ => ⟨by omega, Or.inr ⟨by omega, by rw [show 40 + q - 40 = q by omega]; exact q3⟩⟩⟩
        · exact ⟨q, fun _ => ⟨by omega, Or.inl ⟨q1, q3⟩⟩⟩
      · exact ⟨0, fun z => absurd z hi⟩
    obtain ⟨f, hf⟩ := Classical.axiomOfChoice hf
    obtain ⟨i, j, h1, h2, h3⟩ := php 80 f (fun i hi => (hf i hi).1)
    obtain ⟨-, a1⟩ := hf i (by omega)
    obtain ⟨-, a2⟩ := hf j h2
    rw [h3] at a1
    have key : ∀ {Y : Sh} {n : Nat}, Y.isAt n (x0 + i) y → Y.isAt n (x0 + j) y → False := by
      rintro Y n ⟨z1, e1⟩ ⟨z2, e2⟩
      rw [e1] at e2
      have := Option.some.inj e2
      have := congrArg Prod.fst this
      have : x0 + (i : Int) = x0 + (j : Int) := this
      omega
    rcases a1 with ⟨b1, b2⟩ | ⟨b1, b2⟩ <;> rcases a2 with ⟨c1, c2⟩ | ⟨c1, c2⟩
    · exact key b2 c2
    · omega
    · omega
    · exact key b2 c2
  obtain ⟨n, hn, hp⟩ := hex
  obtain ⟨c, c1, c2, c3⟩ := least_ex (P := fun i : Nat => X.at (x0 + i) y < 0 ∧ V.at (x0 + i) y < 0) n hp
  exact ⟨c, by omega, c2, c3⟩
/-- the sheet beside holds the points told -/
def vts (V : Sh) (T : St) : Prop := ∀ j : Nat, j < 40 → (T.has j → V.1 j = some (T.xs j, T.ys j, 0)) ∧ (¬ T.has j → V.1 j = none)
theorem vts_9 {V : Sh} {T : St} (h : vts V T) (hT : T.Ok) : ∀ (k : Nat) (x y z : Int), k < 40 → V.1 k = some (x, y, z) → inSq x y ∧ -9999 ≤ z ∧ z ≤ 9999 := by
  intro k x y z hk e
  by_cases tk : T.has k
  · rw [(h k hk).1 tk] at e
    cases e
    exact ⟨hT.sq hk, by decide, by decide⟩
  · rw [(h k hk).2 tk] at e
    cases e
theorem Sh.at_none {X : Sh} {x y : Int} (h : X.at x y < 0) : ∀ q : Nat, q < 40 → ¬ X.isAt q x y := by
  rcases X.at_ok x y with ⟨-, z⟩ | ⟨q, -, z, -⟩
  · exact z
  · omega
theorem l_bes1 {w0 : pW} {O Q : Nat → Prop} {a : Nat} {X : Sh} {pa fa ha : Nat} {pf gf hf : Nat → Option Nat} {ff : Nat → Nat} (hSP : shP w0 O Q a X pa fa ha pf gf hf ff) {S : St} (hR : Rel S X) (hOk : S.Ok) {t v sp top n1 : Nat} (ht0 : w0.length ≤ t) (htv : t + 57 ≤ n1) (hns : n1 ≤ sp) (h3 : 3 ≤ top) (h40 : top < 40) {n z : Nat} {Φ : Option Value → pW → Prop}
    (KK : ∀ (w : pW) (T : St) (f : Nat → Int), pfx w0 w → tb w t T → bes1 S T (top + 1) → rowB w sp 40 f → (∀ j : Nat, 4 ≤ j → j < top + 1 → (S.has j → f j = 0) ∧ (¬ S.has j → f j = 1)) → w.length + 4 = n + (top + 1) → pwsz w + 12 = z + 3 * (top + 1) → qE 157 (225, [(5, .int (iI ((4 : Nat) : Int))), (4, .ref sp), (3, .int (iI (top : Int))), (2, .ref v), (1, .ref t), (0, .ref a)], [], w) Φ) :
    ∀ (d k : Nat) (w : pW) (T : St) (V : Sh) (f : Nat → Int), k + d = top + 1 → 4 ≤ k → pfx w0 w → tb w t T → bes1 S T k → shAt w (fun i => n1 ≤ i ∧ i < sp) (fun i => (n1 ≤ i ∧ i < sp) ∨ sp < i) v V → vts V T → rowB w sp 40 f → (∀ j : Nat, 4 ≤ j → j < k → (S.has j → f j = 0) ∧ (¬ S.has j → f j = 1)) → w.length + 4 = n + k → pwsz w + 12 = z + 3 * k → qE 157 (48, [(5, .int (iI (k : Int))), (4, .ref sp), (3, .int (iI (top : Int))), (2, .ref v), (1, .ref t), (0, .ref a)], [], w) Φ := by
  intro d
  induction d with
  | zero =>
    intro k w T V f hk hk4 hp ht hb hV hvt hsp hf hl hz
    have ek : k = top + 1 := by omega
    subst ek
    exact l_b48x (by omega) (KK w T f hp ht hb hsp hf hl hz)
  | succ d ih =>
    intro k w T V f hkd hk4 hp ht hb hV hvt hsp hf hl hz
    have hk : k < 40 := by omega
    have hkt : k ≤ top := by omega
    have hX9 := (hR.In hOk).1
    have hSPw := shP_pfx hp hSP
    have hTo := tb_ok ht
    have tail : ∀ x y : Int, sm x → sm y → (S.has k → x = S.xs k ∧ y = S.ys k) → (¬ S.has k → (∀ i : Nat, i < 40 → S.has i → ¬ (S.xs i = x ∧ S.ys i = y)) ∧ (∀ i : Nat, i < 40 → T.has i → ¬ (T.xs i = x ∧ T.ys i = y)) ∧ (-1000 < x ∧ x < 1000 ∧ -1000 < y ∧ y < 1000)) → qE 157 (157, [(7, .int (iI y)), (6, .int (iI x)), (5, .int (iI (k : Int))), (4, .ref sp), (3, .int (iI (top : Int))), (2, .ref v), (1, .ref t), (0, .ref a)], [], w) Φ := by
      intro x y hx hy h1 h2
      obtain ⟨htk, hlu⟩ := bes1_takes hOk hTo hb hk4 hk h1 (fun sk => ⟨(h2 sk).2.1, by have := (h2 sk).2.2; unfold inSq; omega⟩)
      -- the bit
      have put : ∃ bit : Int, ((S.has k → bit = 0) ∧ (¬ S.has k → bit = 1)) ∧ (qE 157 (177, [(7, .int (iI y)), (6, .int (iI x)), (5, .int (iI (k : Int))), (4, .ref sp), (3, .int (iI (top : Int))), (2, .ref v), (1, .ref t), (0, .ref a)], [], w.set sp (.inl (2, 40, .inl (fun j => iI (uZ f k bit j))))) Φ → qE 157 (157, [(7, .int (iI y)), (6, .int (iI x)), (5, .int (iI (k : Int))), (4, .ref sp), (3, .int (iI (top : Int))), (2, .ref v), (1, .ref t), (0, .ref a)], [], w) Φ) := by
        by_cases sk : S.has k
        · exact ⟨0, ⟨fun _ => rfl, fun q => absurd sk q⟩, fun q => l_b157y hSPw hR hk sk hsp q⟩
        · exact ⟨1, ⟨fun q => absurd q sk, fun _ => rfl⟩, fun q => l_b157n hSPw hR hk sk hsp q⟩
      obtain ⟨bit, hbit, put⟩ := put
      refine put ?_
      have hA1 : agr (fun i => i = sp) w (w.set sp (.inl (2, 40, .inl (fun j => iI (uZ f k bit j))))) := agr_set rfl
      have hl1 : (w.set sp (.inl (2, 40, .inl (fun j => iI (uZ f k bit j))))).length = w.length := List.length_set ..
      have hz1 : pwsz (w.set sp (.inl (2, 40, .inl (fun j => iI (uZ f k bit j))))) = pwsz w := by
        rw [pwsz_set hsp]
        rfl
      have hsp1 : rowB (w.set sp (.inl (2, 40, .inl (fun j => iI (uZ f k bit j))))) sp 40 (uZ f k bit) := by
        show (w.set sp _)[sp]? = some _
        rw [List.getElem?_set_self (get_lt hsp)]
      generalize w.set sp (.inl (2, 40, .inl (fun j => iI (uZ f k bit j)))) = w1 at hA1 hl1 hz1 hsp1 ⊢
      have hp1 : pfx w0 w1 := pfx_agr hp hA1 (fun i e => by have e : i = sp := e; omega)
      have ht1 : tb w1 t T := tb_agr ht hA1 (fun i e q => by have e : i = sp := e; have := q.2; omega)
      have hV1 := sh_agr hV hA1 (fun i e => by have e : i = sp := e; exact ⟨fun q => by have := q.2; omega, fun q => by rcases q with q | q <;> omega⟩)
      refine l_b177 ht1 hx hy hk htk hlu (fun w2 R hla hrs ht2 hc => ?_)
      have hp2 : pfx w0 w2 := pfx_agr hp1 hc.1 (fun i q => by have := q.1; omega)
      have hV2 := sh_agr hV1 hc.1 (fun i q => ⟨fun q2 => by have := q.2; have := q2.1; omega, fun q2 => by have := q.2; rcases q2 with q2 | q2 <;> omega⟩)
      have hsp2 : rowB w2 sp 40 (uZ f k bit) := cell_agr hc.1 hsp1 (fun q => by have := q.2; omega)
      obtain ⟨pv, fv, hv, pf2, gf2, hf2, ff2, hVP⟩ := hV2
      have hvo := hVP.2.1
      have hpv := hVP.1.2.1
      have hspl := get_lt hsp2
      refine l_b192 rfl hvo ?_
      refine pe_go (pc := 215) rfl (s_aast (kd := 3) (k := k) (cell_app hVP.2.2.1) (holds_row (get_end rfl)) rfl ⟨hk, by decide⟩ rfl) ?_
      have hVa := sh_app hVP [.inl (0, 3, .inl (fun j => iI (row3 x y 0 j)))]
      have hVb := sh_pt (p := k) (x := x) (y := y) (z := 0) (r := w2.length) hVa (get_end rfl) (Or.inr hspl)
      have hpa2 : pfx w2 (w2 ++ [.inl (0, 3, .inl (fun j => iI (row3 x y 0 j)))]) := ⟨_, rfl⟩
      have hl3 : (w2 ++ [(.inl (0, 3, .inl (fun j => iI (row3 x y 0 j))) : pCell)]).length = w2.length + 1 := by rw [List.length_append]; rfl
      have hz3 : pwsz (w2 ++ [.inl (0, 3, .inl (fun j => iI (row3 x y 0 j)))]) = pwsz w2 + 3 := by
        rw [pwsz_app]
        rfl
      have hpvc := hVa.2.2.1
      generalize w2 ++ [.inl (0, 3, .inl (fun j => iI (row3 x y 0 j)))] = w3 at hVb hpa2 hl3 hz3 hpvc ⊢
      have hA4 : agr (fun i => i = pv) w3 (w3.set pv (.inl (3, 40, rfs (va_up pf2 k (some w2.length))))) := agr_set rfl
      have hl4 : (w3.set pv (.inl (3, 40, rfs (va_up pf2 k (some w2.length))))).length = w3.length := List.length_set ..
      have hz4 : pwsz (w3.set pv (.inl (3, 40, rfs (va_up pf2 k (some w2.length))))) = pwsz w3 := by
        rw [pwsz_set hpvc]
        rfl
      have hp3 := pfx_trans hp2 hpa2
      have ht3 : tb w3 t R := tb_agr ht2 (pfx_gro (P := fun _ => False) hpa2) (fun i e => e.elim)
      have hsp3 : rowB w3 sp 40 (uZ f k bit) := pfx_cell hpa2 hsp2
      generalize w3.set pv (.inl (3, 40, rfs (va_up pf2 k (some w2.length)))) = w4 at hVb hA4 hl4 hz4 ⊢
      refine l_b216 ?_
      have hcl := hc.2.1
      have hcz := hc.2.2
      refine ih (k + 1) w4 R (V.uP k (some (x, y, 0))) (uZ f k bit) (by omega) (by omega) (pfx_agr hp3 hA4 (fun i e => by have e : i = pv := e; have := hpv.1; omega)) (tb_agr ht3 hA4 (fun i e q => by have e : i = pv := e; have := hpv.1; have := q.2; omega)) (bes1_step hTo hb hk h1 (fun sk => ⟨(h2 sk).1, (h2 sk).2.2⟩) hla hrs) ⟨_, _, _, _, _, _, _, hVb⟩ ?_ (cell_agr hA4 hsp3 (fun e => by have e : sp = pv := e; have := hpv.2; omega)) ?_ (by omega) (by omega)
      · obtain ⟨lx, ly, lt, -⟩ := hla
        intro j hj
        by_cases e : j = k
        · subst e
          refine ⟨fun _ => ?_, fun q => ?_⟩
          · rw [Sh.uP_at, lx, ly, uZ_at, uZ_at]
          · exfalso
            apply q
            unfold St.has
            rw [lt, bt_set (by omega), decide_eq_true rfl, Bool.or_true]
        · have eh : R.has j ↔ T.has j := by
            unfold St.has
            rw [lt, bt_set (by omega), decide_eq_false e, Bool.or_false]
          rw [Sh.uP_ne V _ e, lx, ly, uZ_ne e, uZ_ne e, eh]
          exact hvt j hj
      · intro j hj4 hj
        by_cases e : j = k
        · subst e
          rw [uZ_at]
          exact hbit
        · rw [uZ_ne e]
          exact hf j hj4 (by omega)
    by_cases sk : S.has k
    · refine l_b48y hSPw hR hk (by omega) sk (tail _ _ ?_ ?_ (fun _ => ⟨rfl, rfl⟩) (fun q => absurd sk q))
      · have := hOk.B k hk; exact ⟨by omega, by omega⟩
      · have := hOk.B k hk; exact ⟨by omega, by omega⟩
    · have hkk : 0 ≤ (k : Int) * (k : Int) ∧ (k : Int) * (k : Int) ≤ 1521 := by
        have h1 := Int.mul_nonneg (show 0 ≤ (k : Int) by omega) (show 0 ≤ (k : Int) by omega)
        have h2 := Int.mul_nonneg (show 0 ≤ 39 - (k : Int) by omega) (show 0 ≤ 39 + (k : Int) by omega)
        have h3 : (39 - (k : Int)) * (39 + (k : Int)) = 1521 - (k : Int) * (k : Int) := by grind
        omega
      obtain ⟨i, hi, hxe, hoc⟩ := Sh.room X V ((-997) + 3 * (k : Int)) ((-991) + (k : Int) * (k : Int))
      have hsx : sm ((-997) + 3 * (k : Int) + (i : Int)) := ⟨by omega, by omega⟩
      have hsy : sm ((-991) + (k : Int) * (k : Int)) := ⟨by omega, by omega⟩
      refine l_b48n hSPw hR hk (by omega) sk ?_
      refine l_place hSPw hR hX9 hV (vts_9 hvt hTo) hk sk hsx hsy hxe (tail _ _ hsx hsy (fun q => absurd q sk) (fun _ => ⟨fun j hj sj q => ?_, fun j hj tj q => ?_, ⟨by omega, by omega, by omega, by omega⟩⟩)) i _ rfl (by omega) (fun x9 q1 q2 => ?_)
      · refine Sh.at_none hxe.1 j hj ⟨S.hs j, ?_⟩
        rw [hR.pt hj sj, q.1, q.2]
      · refine Sh.at_none hxe.2 j hj ⟨0, ?_⟩
        rw [(hvt j hj).1 tj, q.1, q.2]
      · have := hoc (x9 - ((-997) + 3 * (k : Int))).toNat (by omega)
        rwa [show (-997) + 3 * (k : Int) + ((x9 - ((-997) + 3 * (k : Int))).toNat : Int) = x9 by omega] at this
/-- the object beside, all else as it stands -/
def bw (w0 : pW) (n z t : Nat) (w : pW) (T : St) : Prop := pfx w0 w ∧ tb w t T ∧ w.length = n ∧ pwsz w = z
theorem bw_chg {w0 w w' : pW} {n z t : Nat} {T T' : St} (h : bw w0 n z t w T) (ht0 : w0.length ≤ t) (ht : tb w' t T') (hc : chg t w w') : bw w0 n z t w' T' := ⟨pfx_agr h.1 hc.1 (fun i q => by have := q.1; omega), ht, hc.2.1.trans h.2.2.1, hc.2.2.trans h.2.2.2⟩
theorem l_bes2 {w0 : pW} {a : Nat} {S : St} {t v sp top n z : Nat} (ht0 : w0.length ≤ t) (hts : t + 57 ≤ sp) (h40 : top < 40) {f : Nat → Int} (hf : ∀ j : Nat, 4 ≤ j → j < top + 1 → (S.has j → f j = 0) ∧ (¬ S.has j → f j = 1)) {Φ : Option Value → pW → Prop}
    (KK : ∀ (w : pW) (T : St), bw w0 n z t w T → bes2 S T (top + 1) (top + 1) → qE 157 (259, [(5, .int (iI ((0 : Nat) : Int))), (2, .ref v), (1, .ref t), (0, .ref a)], [], w) Φ) :
    ∀ (d k : Nat) (w : pW) (T : St), k + d = top + 1 → 4 ≤ k → bw w0 n z t w T → bes2 S T (top + 1) k → rowB w sp 40 f → qE 157 (225, [(5, .int (iI (k : Int))), (4, .ref sp), (3, .int (iI (top : Int))), (2, .ref v), (1, .ref t), (0, .ref a)], [], w) Φ := by
  intro d
  induction d with
  | zero =>
    intro k w T hk hk4 hw hb hsp
    have ek : k = top + 1 := by omega
    subst ek
    exact l_d225x (by omega) (KK w T hw hb)
  | succ d ih =>
    intro k w T hk hk4 hw hb hsp
    by_cases sk : S.has k
    · exact l_d225n (by omega) (by omega) hsp ((hf k hk4 (by omega)).1 sk) (ih (k + 1) w T (by omega) (by omega) hw (bes2_keep hb sk) hsp)
    · obtain ⟨l1, l2⟩ := bes2_loose (tb_ok hw.2.1) hb (by omega) (by omega) sk
      refine l_d225y (by omega) (by omega) hsp ((hf k hk4 (by omega)).2 sk) hw.2.1 l1 l2 (fun w' R hr hrs ht hc => ?_)
      exact ih (k + 1) w' R (by omega) (by omega) (bw_chg hw ht0 ht hc) (bes2_drop hb (by omega) sk hr hrs) (cell_agr hc.1 hsp (fun q => by have := q.2; omega))
/-- the pairs that were looked at -/
def lxP (p q u v : Nat) : Prop := (v < u ∧ (u < p ∨ (u = p ∧ v < q))) ∨ (u < v ∧ (v < p ∨ (v = p ∧ u < q)))
theorem St.Ok.how1_sym {S : St} (h : S.Ok) {u v : Nat} (hu : u < 40) (hv : v < 40) (hw : S.how u v = 1) : S.how v u = 1 := by
  obtain ⟨z1, z2⟩ := St.how_1.mp hw
  exact St.how_1.mpr ⟨(h.bound_sym hu hv).mp z1, fun z => z2 z.symm⟩
theorem St.Ok.how_ne {S : St} (h : S.Ok) {u : Nat} (hu : u < 40) : S.how u u ≠ 1 := by
  intro hw
  obtain ⟨z1, z2⟩ := St.how_1.mp hw
  have hEd := (h.M.2.1.1 u u hu hu z1).2.2.2
  have hd : S.ap (u * 40 + u) ≠ -1 := by rcases hEd with z | z <;> exact z
  have a1 := h.M.1.PM.1 (u * 40 + u) (by omega)
  obtain ⟨r, hr⟩ := Int.eq_ofNat_of_zero_le (show 0 ≤ S.ap (u * 40 + u) by omega)
  exact (St.sd3_ne (h.M.1.PM.2.2 u u r hu hu (by omega) hr).2.2.2).1 rfl
theorem l_bes3 {w0 : pW} {O Q : Nat → Prop} {a : Nat} {X : Sh} {pa fa ha : Nat} {pf gf hf : Nat → Option Nat} {ff : Nat → Nat} (hSP : shP w0 O Q a X pa fa ha pf gf hf ff) {S : St} (hR : Rel S X) (hOk : S.Ok) {t v n z : Nat} (ht0 : w0.length ≤ t) {Φ : Option Value → pW → Prop} {p : Nat} (hp : p < 40)
    (KK : ∀ (w : pW) (T : St), bw w0 n z t w T → bes3 S T (lxP (p + 1) 0) → qE 157 (259, [(5, .int (iI ((p + 1 : Nat) : Int))), (2, .ref v), (1, .ref t), (0, .ref a)], [], w) Φ) :
    ∀ (d q : Nat) (w : pW) (T : St), q + d = p → bw w0 n z t w T → bes3 S T (lxP p q) → qE 157 (269, [(6, .int (iI (q : Int))), (5, .int (iI (p : Int))), (2, .ref v), (1, .ref t), (0, .ref a)], [], w) Φ := by
  intro d
  induction d with
  | zero =>
    intro q w T hq hw hb
    have eq : q = p := by omega
    subst eq
    exact l_f269x hp (KK w T hw (bes3_iff hb (fun u v _ _ _ => by unfold lxP; omega)))
  | succ d ih =>
    intro q w T hq hw hb
    have hSPw := shP_pfx hw.1 hSP
    have hh := hR.2.2.1 p q hp (by omega)
    have hTo := tb_ok hw.2.1
    by_cases h1 : S.how p q = 1
    · obtain ⟨E, hE, hE2⟩ := hTo.E
      have h1' := hOk.how1_sym hp (by omega) h1
      have hnb : ¬ T.bound p q := fun zz => by
        rcases (hb.2.2.2.2 p q hp (by omega)).mp zz with y | ⟨-, y⟩
        · omega
        · unfold lxP at y; omega
      refine l_f269y hSPw hR hp (by omega) (hh.trans h1) hw.2.1 hE hE2 (bes3_sight hOk hTo hb hp (by omega) h1 hE) hnb (fun w' R hr hrs ht hc => ?_)
      refine ih (q + 1) w' R (by omega) (bw_chg hw ht0 ht hc) (bes3_iff (bes3_step hb h1 h1' hr hrs) (fun u v hu hv huv => ?_))
      have hne : u ≠ v := fun e => hOk.how_ne hv (by rw [e] at huv; exact huv)
      unfold lxP eU
      omega
    · refine l_f269n hSPw hR hp (by omega) (by rw [hh]; exact h1) (by rw [hh]; exact St.how_b _ _ _) ?_
      refine ih (q + 1) w T (by omega) hw (bes3_iff hb (fun u v hu hv huv => ?_))
      have hn1 : ¬ (u = p ∧ v = q) := fun e => h1 (by rw [← e.1, ← e.2]; exact huv)
      have hn2 : ¬ (u = q ∧ v = p) := fun e => h1 (by rw [← e.1, ← e.2]; exact hOk.how1_sym hu hv huv)
      unfold lxP
      omega
theorem l_bes3a {w0 : pW} {O Q : Nat → Prop} {a : Nat} {X : Sh} {pa fa ha : Nat} {pf gf hf : Nat → Option Nat} {ff : Nat → Nat} (hSP : shP w0 O Q a X pa fa ha pf gf hf ff) {S : St} (hR : Rel S X) (hOk : S.Ok) {t v n z : Nat} (ht0 : w0.length ≤ t) {Φ : Option Value → pW → Prop}
    (KK : ∀ (w : pW) (T : St), bw w0 n z t w T → bes3 S T (lxP 40 0) → qE 157 (318, [(5, .int (iI ((0 : Nat) : Int))), (2, .ref v), (1, .ref t), (0, .ref a)], [], w) Φ) :
    ∀ (d p : Nat) (w : pW) (T : St), p + d = 40 → bw w0 n z t w T → bes3 S T (lxP p 0) → qE 157 (259, [(5, .int (iI (p : Int))), (2, .ref v), (1, .ref t), (0, .ref a)], [], w) Φ := by
  intro d
  induction d with
  | zero =>
    intro p w T hp hw hb
    have ep : p = 40 := by omega
    subst ep
    exact l_f259x (KK w T hw hb)
  | succ d ih =>
    intro p w T hp hw hb
    exact l_f259 (by omega) (l_bes3 hSP hR hOk ht0 (show p < 40 by omega) (fun w' T' hw' hb' => ih (p + 1) w' T' (by omega) hw' hb') p 0 w T (by omega) hw hb)
theorem l_bes4 {w0 : pW} {O Q : Nat → Prop} {a : Nat} {X : Sh} {pa fa ha : Nat} {pf gf hf : Nat → Option Nat} {ff : Nat → Nat} (hSP : shP w0 O Q a X pa fa ha pf gf hf ff) {S : St} (hR : Rel S X) (hOk : S.Ok) {t v n z : Nat} (ht0 : w0.length ≤ t) {Φ : Option Value → pW → Prop}
    (KK : ∀ (w : pW) (T : St), bw w0 n z t w T → bes4 S T 40 0 → qE 157 (373, [(2, .ref v), (1, .ref t), (0, .ref a)], [], w) Φ) :
    ∀ (d k : Nat) (w : pW) (T : St), k + d = 40 → bw w0 n z t w T → bes4 S T k 0 → qE 157 (318, [(5, .int (iI (k : Int))), (2, .ref v), (1, .ref t), (0, .ref a)], [], w) Φ := by
  intro d
  induction d with
  | zero =>
    intro k w T hk hw hb
    have ek : k = 40 := by omega
    subst ek
    exact l_h318x (KK w T hw hb)
  | succ d ih =>
    intro k w T hk hw hb
    have hSPw := shP_pfx hw.1 hSP
    have hk4 : k < 40 := by omega
    by_cases sk : S.has k
    · by_cases hz : S.hs k = 0
      · exact l_h318z hSPw hR hk4 sk hz (ih (k + 1) w T (by omega) hw (bes4_skip hb (fun _ => hz)))
      · exact l_h318y hSPw hR hk4 sk hz (hOk.2.2.2.2.2.2.2.2 k hk4) hw.2.1 ((hb.1 k hk4).mpr sk) (fun w' ht hc => ih (k + 1) w' _ (by omega) (bw_chg hw ht0 ht hc) (bes4_height hb))
    · exact l_h318n hSPw hR hk4 sk (ih (k + 1) w T (by omega) hw (bes4_skip hb (fun q => absurd q sk)))
theorem l_bes5 {w0 : pW} {O Q : Nat → Prop} {a : Nat} {X : Sh} {pa fa ha : Nat} {pf gf hf : Nat → Option Nat} {ff : Nat → Nat} (hSP : shP w0 O Q a X pa fa ha pf gf hf ff) {S : St} (hR : Rel S X) {t v n z : Nat} (ht0 : w0.length ≤ t) {Φ : Option Value → pW → Prop}
    (KK : ∀ (w : pW) (T : St), bw w0 n z t w T → bes4 S T 40 X.2.2.1 → qE 157 (424, [(2, .ref v), (1, .ref t), (0, .ref a)], [], w) Φ) :
    ∀ (d k : Nat) (w : pW) (T : St), k + d = X.2.2.1 → bw w0 n z t w T → bes4 S T 40 k → qE 157 (387, [(7, .int (iI (k : Int))), (6, .int (iI ((X.2.2.1 : Nat) : Int))), (5, .ref ha), (2, .ref v), (1, .ref t), (0, .ref a)], [], w) Φ := by
  intro d
  induction d with
  | zero =>
    intro k w T hk hw hb
    have ek : k = X.2.2.1 := by omega
    rw [ek] at hb ⊢
    exact l_o387x (hSP.2.2.2.2.2.2.2.2.2.1) (KK w T hw hb)
  | succ d ih =>
    intro k w T hk hw hb
    refine l_o387y (shP_pfx hw.1 hSP) hR (by omega) hw.2.1 hb.2.2.2.1 (fun w' f1 f2 ht hc => ?_)
    exact ih (k + 1) w' _ (by omega) (bw_chg hw ht0 ht hc) (bes4_hole hb f1 f2)
theorem w_beside {w0 : pW} {O Q : Nat → Prop} {a : Nat} {X : Sh} (hS0 : shAt w0 O Q a X) {S : St} (hR : Rel S X) (hOk : S.Ok) : qC 157 [.ref a] w0 (fun r w' => ∃ (t : Nat) (T : St), w0.length ≤ t ∧ r = some (.ref t) ∧ tb w' t T ∧ Rel T X ∧ pfx w0 w' ∧ gro 143 (pwsz (nP 0) + 1848) w0 w') := by
  obtain ⟨pa, fa, ha, pf, gf, hf, ff, hSP⟩ := hS0
  refine pc_run (lv := [(0, .ref a)]) rfl ?_
  refine pe_go (pc := 0) rfl s_newO ?_
  show qE 157 (3, _, _, w0 ++ nO1 w0.length) _
  refine pe_go (pc := 3) rfl (s_dup rfl) ?_
  refine pe_callE rfl (s_invI rfl app_new rfl rfl) (w_new (pre := w0) rfl) ?_
  rintro _ w1 ⟨rfl, T0, hT0, hO0⟩
  have ht1 : tb w1 w0.length T0 := ⟨[], [], T0, w0, [], rfl, hO0⟩
  obtain ⟨x, hx, ew1, sx⟩ := OB_split hO0
  have hp1 : pfx w0 w1 := ⟨x ++ [], ew1⟩
  have hl1 : w1.length = w0.length + 57 := by rw [ew1, List.length_append, List.length_append, hx]; rfl
  have hz1 : pwsz w1 = pwsz w0 + pwsz (nP 0) := by rw [ew1, pwsz_ap, pwsz_ap, sx]; rfl
  refine pe_go (pc := 7) rfl (s_astore_n (lv' := [(1, .ref w0.length), (0, .ref a)]) rfl) ?_
  have hobj : (w1 ++ [.inr (9, [.null, .null, .null, .int 0])])[w1.length]? = some (.inr (9, [.null, .null, .null, .int 0])) := app_new
  have hlen : (w1 ++ [(.inr (9, [.null, .null, .null, .int 0]) : pCell)]).length = w1.length + 1 := by rw [List.length_append]; rfl
  refine pe_go (pc := 8) rfl s_newO ?_
  rw [sheet_new]
  refine pe_go (pc := 11) rfl (s_dup rfl) ?_
  refine pe_callE rfl (s_invI rfl hobj rfl rfl) (w_init hlen hobj) ?_
  rintro _ w2 ⟨rfl, hV, g2, z2⟩
  have z2' : gro 49 1700 w1 w2 := gro_mono (gro_trans (gro_app w1 (.inr (9, [.null, .null, .null, .int 0]))) z2) (by decide) (by decide)
  have hp2 : pfx w1 w2 := pfx_agr (pfx_app (pfx_refl w1) _) g2 (fun i e => by have e : i = w1.length := e; omega)
  have hl12 := pfx_len hp2
  refine pe_go (pc := 15) rfl (s_astore_n (lv' := [(2, .ref w1.length), (1, .ref w0.length), (0, .ref a)]) rfl) ?_
  refine pe_go (pc := 16) rfl (s_bipush (z := 39) rfl) ?_
  refine pe_go (pc := 18) rfl (s_istore_n (lv' := [(3, .int (iI ((39 : Nat) : Int))), (2, .ref w1.length), (1, .ref w0.length), (0, .ref a)]) rfl) ?_
  have hp02 := pfx_trans hp1 hp2
  refine l_top (shP_pfx hp02 hSP) hR (fun top h3 h40 hlast => ?_) 36 39 (by omega) (by decide) (fun i h1 h2 => by omega)
  refine l_b39 (m := w2.length) rfl ?_
  obtain ⟨w3, ew3⟩ : ∃ w3 : pW, w3 = w2 ++ [.inl (2, 40, .inl (fun j => iI ((fun _ => (0 : Int)) j)))] := ⟨_, rfl⟩
  rw [← ew3]
  have hp3 : pfx w2 w3 := ⟨_, ew3⟩
  have hl3 : w3.length = w2.length + 1 := by rw [ew3, List.length_append]; rfl
  have hz3 : pwsz w3 = pwsz w2 + 40 := by
    rw [ew3, pwsz_app]
    rfl
  have hsp3 : rowB w3 w2.length 40 (fun _ => (0 : Int)) := by rw [ew3]; exact get_end rfl
  have hV2 : shAt w2 (fun i => w1.length ≤ i ∧ i < w2.length) (fun i => (w1.length ≤ i ∧ i < w2.length) ∨ w2.length < i) w1.length Sh.first := sh_mono hV (fun i hi q => by rcases q with q | q <;> omega) (fun i hi q => by have := q.1; omega)
  have hb1 := bes1_0 hOk hT0
  have hvt : vts Sh.first T0 := fun j hj => by
    refine ⟨fun tj => ?_, fun tj => hT0.no hj tj⟩
    rw [hT0.pt hj tj, hb1.2.2.1 j ((hb1.2.1 j hj).mp tj)]
  have hlen1 : w1.length + 1 ≤ w2.length := by have := g2.1; rw [hlen] at this; exact this
  refine l_bes1 hSP hR hOk (t := w0.length) (v := w1.length) (sp := w2.length) (n1 := w1.length) (Nat.le_refl _) (by omega) (by omega) h3 h40 (n := w3.length) (z := pwsz w3) (fun w4 T4 f4 hp4 ht4 hb4 hsp4 hf4 hl4 hz4 => ?_) (top - 3) 4 w3 T0 Sh.first (fun _ => 0) (by omega) (by omega) (pfx_trans hp02 hp3) (tb_agr ht1 (pfx_gro (P := fun _ => False) (pfx_trans hp2 hp3)) (fun i e => e.elim)) hb1 (shAt_pfx hp3 hV2) hvt hsp3 (fun j q1 q2 => by omega) (by omega) (by omega)
  refine l_bes2 (w0 := w0) (S := S) (n := w4.length) (z := pwsz w4) (Nat.le_refl _) (by omega) h40 hf4 (fun w5 T5 hw5 hb5 => ?_) (top - 3) 4 w4 T4 (by omega) (by omega) ⟨hp4, ht4, rfl, rfl⟩ (bes2_0 hOk hb4) hsp4
  have hb6 := bes3_0 hOk (tb_ok hw5.2.1) (by omega) (fun j q1 q2 => hlast j (by omega) q2) hb5
  refine l_bes3a hSP hR hOk (Nat.le_refl _) (fun w6 T6 hw6 hb6 => ?_) 40 0 w5 T5 (by omega) hw5 (bes3_iff hb6 (fun u v _ _ _ => ⟨fun z => False.elim z, fun z => by unfold lxP at z; omega⟩))
  have hb7 := bes4_0 hb6 hOk (fun u v hu hv huv => by
    have hne : u ≠ v := fun e => hOk.how_ne hv (by rw [e] at huv; exact huv)
    unfold lxP
    omega)
  refine l_bes4 hSP hR hOk (Nat.le_refl _) (fun w7 T7 hw7 hb8 => ?_) 40 0 w6 T6 (by omega) hw6 hb7
  refine l_o373 (shP_pfx hw7.1 hSP) hR ?_
  refine l_bes5 hSP hR (Nat.le_refl _) (fun w8 T8 hw8 hb9 => ?_) X.2.2.1 0 w7 T7 (by omega) hw7 hb8
  refine l_b424 (shP_pfx hw8.1 hSP) hR hw8.2.1 (hR.In hOk).2.2.2 (fun w9 ht9 hc9 => ?_)
  have hw9 := bw_chg hw8 (Nat.le_refl _) ht9 hc9
  refine ⟨w0.length, _, Nat.le_refl _, rfl, ht9, bes4_end hR hb9, hw9.1, ?_⟩
  have q1 := hw9.2.2.1
  have q2 := hw9.2.2.2
  have q3 := z2'.1
  have q4 := z2'.2
  exact ⟨by omega, by omega⟩
