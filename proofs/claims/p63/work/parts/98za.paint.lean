/-! THE LAW: all colours. By hand. -/
theorem l_cols {w1 : pW} {pre : pW} {b : Nat} (hb : pre.length = b) {S : St} {L M : List St} {K : St} (h : S.Ok) {E : Nat} (hE : S.ec = (E : Int)) (hE2 : E ≤ 113) {O Q : Nat → Prop} {a : Nat} {X : Sh} {pa fa ha : Nat} {pf gf hf : Nat → Option Nat} {ff : Nat → Nat} (hS : shP w1 O Q a X pa fa ha pf gf hf ff) (hR : Rel S X) {T : Nat} (hT : S.tn = (T : Int)) (hT2 : T ≤ 74) {q : Nat} {tf : Nat → Option Nat} {tr : Nat → Nat} {G : Nat → Nat → Int} (hT9 : tabAt w1 q tf tr G) (hG : ∀ x y : Nat, x < 40 → y < 40 → G x y = S.sid x y) {e g : Nat} (hbe : b + 57 ≤ e) (hD : ∀ i : Nat, (b ≤ i ∧ i < b + 57) ∨ i = e → ¬ O i ∧ ¬ Q i) (hq : ¬ ((b ≤ q ∧ q < b + 57) ∨ q = e)) (hr : ∀ x : Nat, x < 40 → ¬ ((b ≤ tr x ∧ tr x < b + 57) ∨ tr x = e)) {c0 : Nat → Int} (hc0 : colOk S c0 40) {x3 x4 x5 x6 x7 x8 : Int} {Φ : Option Value → pW → Prop}
    (KK : ∀ (w : pW) (mx : Int), (∃ post : pW, OB pre post b S L M K w) → agr (fun i => (b ≤ i ∧ i < b + 57) ∨ i = e) w1 w → w.length = w1.length → pwsz w = pwsz w1 → colN S c0 40 mx → qE 151 (1182, [(12, .int (iI mx)), (11, .ref e), (10, .ref g), (9, .ref q), (8, .int (iI x8)), (7, .int (iI x7)), (6, .int (iI x6)), (5, .int (iI x5)), (4, .int (iI x4)), (3, .int (iI x3)), (2, .int (iI (T : Int))), (0, .ref b), (1, .ref a)], [], w) Φ) :
    ∀ (d p : Nat) (w : pW) (cl : Nat → Int) (mx : Int), p + d = 40 → (∃ post : pW, OB pre post b S L M K w) → agr (fun i => (b ≤ i ∧ i < b + 57) ∨ i = e) w1 w → w.length = w1.length → pwsz w = pwsz w1 → rowI w e 40 cl → (∀ j : Nat, j < p → S.has j → cl j = c0 j) → colN S c0 p mx → qE 151 (1043, [(13, .int (iI (p : Int))), (12, .int (iI mx)), (11, .ref e), (10, .ref g), (9, .ref q), (8, .int (iI x8)), (7, .int (iI x7)), (6, .int (iI x6)), (5, .int (iI x5)), (4, .int (iI x4)), (3, .int (iI x3)), (2, .int (iI (T : Int))), (0, .ref b), (1, .ref a)], [], w) Φ := by
  intro d
  induction d with
  | zero =>
    intro p w cl mx hp hO hA hl hz he hcl hmx
    have ep : p = 40 := by omega
    subst ep
    exact l_c1043x (KK w mx hO hA hl hz hmx)
  | succ d ih =>
    intro p w cl mx hp9 hO hA hl hz he hcl hmx
    obtain ⟨post, hO⟩ := hO
    have hp : p < 40 := by omega
    have hn9 := h.nr
    have hcb : ∀ j : Nat, j < p → S.nr p j → 0 ≤ cl j ∧ cl j ≤ 14 := fun j hj hn => by
      have sj := hn9 p j hp (by omega) hn
      rw [hcl j hj sj]
      exact ⟨(hc0 j (by omega) sj).1, col_14 h hE hE2 hc0 (by omega) sj⟩
    have hS1 := fun (w2 : pW) (hA2 : agr (fun i => (b ≤ i ∧ i < b + 57) ∨ i = e) w1 w2) => shP_agr hS hA2 hD
    refine l_c1043 hp ?_
    refine l_taken (tab_agr hA hT9 hq hr) (fun x y hx hy => by have := h.sid_b hT hx hy; rw [hG x y hx hy]; omega) (fun x y hx hy => by rw [hG x y hx hy, hG y x hy hx]; exact h.sid_nr hx hy) he hp hcb (fun u hu hub => ?_) p 0 0 (by omega) (by decide) (fun c hc => ⟨fun z => absurd z (by rw [Nat.zero_testBit]; decide), fun ⟨j, j1, _⟩ => absurd j1 (Nat.not_lt_zero j)⟩)
    -- the row written
    have put : ∀ c : Nat, ∃ (w2 post2 : pW), w2 = w.set e (.inl (0, 40, .inl (fun j => iI (uZ cl p (c : Int) j)))) ∧ OB pre post2 b S L M K w2 ∧ agr (fun i => (b ≤ i ∧ i < b + 57) ∨ i = e) w1 w2 ∧ w2.length = w1.length ∧ pwsz w2 = pwsz w1 ∧ rowI w2 e 40 (uZ cl p (c : Int)) := fun c => by
      obtain ⟨post2, hO2⟩ := OB_set hb hO hbe (.inl (0, 40, .inl (fun j => iI (uZ cl p (c : Int) j))))
      refine ⟨_, post2, rfl, hO2, agr_trans hA (agr_set (P := fun i => (b ≤ i ∧ i < b + 57) ∨ i = e) (Or.inr rfl)) (fun _ z => z), by rw [List.length_set, hl], (pwsz_set3 (g := uZ cl p (c : Int)) he).trans hz, ?_⟩
      show (w.set e _)[e]? = some _
      rw [List.getElem?_set_self (get_lt he)]
    by_cases sp : S.has p
    · obtain ⟨c, c1, c2, c3, c4⟩ := col_next h hE hE2 hc0 hp sp hcl hub
      obtain ⟨m, hm⟩ := low_bits c3 c4
      refine l_c1105 he hp c2 hu hm ?_
      obtain ⟨w2, post2, ew, hO2, hA2, hl2, hz2, he2⟩ := put c
      rw [← ew]
      refine l_c1117y hb hO2 hp sp (fun w' cc hok hO3 => ?_)
      have ecc : cc p = (c : Int) := (colOk_uniq hn9 hok hc0 p hp sp).trans c1
      rw [ecc]
      obtain ⟨f1, f2, f3⟩ := OB_frame hb hO2 hO3
      have hA3 : agr (fun i => (b ≤ i ∧ i < b + 57) ∨ i = e) w1 w' := agr_trans hA2 (agr_mono (OB_agr hb hO2 hO3) (Q := fun i => (b ≤ i ∧ i < b + 57) ∨ i = e) (fun _ z => Or.inl z)) (fun _ z => z)
      have he3 : rowI w' e 40 (uZ cl p (c : Int)) := OB_keep hb hO2 hO3 (Or.inr hbe) he2
      have hb9 := hmx
      refine l_c1123y (hS1 w' hA3) hR he3 hp ⟨by have := hb9.1; omega, by have := hb9.2.1; omega⟩ sp c2 (show uZ cl p (c : Int) p = (c : Int) from if_pos rfl) ?_
      have hmx2 := colN_y hmx sp ⟨(hc0 p hp sp).1, (hc0 p hp sp).2.1⟩
      rw [c1] at hmx2
      refine ih (p + 1) w' (uZ cl p (c : Int)) _ (by omega) ⟨post2, hO3⟩ hA3 (by omega) (by omega) he3 (fun j hj sj => ?_) hmx2
      by_cases ej : j = p
      · rw [ej, c1]; exact if_pos rfl
      · show (if j = p then _ else cl j) = _
        rw [if_neg ej]
        exact hcl j (by omega) sj
    · have hz0 : u.testBit 0 = false := by
        rcases hb0 : u.testBit 0 with _ | _
        · rfl
        · obtain ⟨j, j1, j2, -⟩ := (hub 0 (by decide)).mp hb0
          exact absurd (hn9 j p (by omega) hp (h.nr_sym hp (by omega) j2)) sp
      obtain ⟨m, hm⟩ := low_bits (c := 0) hz0 (fun k hk => absurd hk (Nat.not_lt_zero k))
      refine l_c1105 he hp (c := 0) (by decide) hu hm ?_
      obtain ⟨w2, post2, ew, hO2, hA2, hl2, hz2, he2⟩ := put 0
      rw [← ew]
      refine l_c1117n hb hO2 hp sp ?_
      refine l_c1123n (hS1 w2 hA2) hR he2 hp ⟨by have := hmx.1; omega, by have := hmx.2.1; omega⟩ sp ?_
      refine ih (p + 1) w2 _ mx (by omega) ⟨post2, hO2⟩ hA2 hl2 hz2 he2 (fun j hj sj => ?_) (colN_n hmx sp)
      by_cases ej : j = p
      · exact absurd (ej ▸ sj) sp
      · show (if j = p then _ else cl j) = _
        rw [if_neg ej]
        exact hcl j (by omega) sj
