/-! A TRIANGLE of the object's list: its corners, its three sides in the table; a world that has only grown. By hand. -/
/-- the first world stands at the head of the second -/
def pfx (w0 w : pW) : Prop := ∃ l : pW, w = w0 ++ l
theorem pfx_refl (w : pW) : pfx w w := ⟨[], (List.append_nil w).symm⟩
theorem pfx_app {w0 w : pW} (h : pfx w0 w) (l : pW) : pfx w0 (w ++ l) := by
  obtain ⟨l1, rfl⟩ := h
  exact ⟨l1 ++ l, List.append_assoc _ _ _⟩
theorem pfx_trans {w0 w w1 : pW} (h : pfx w0 w) (k : pfx w w1) : pfx w0 w1 := by
  obtain ⟨l, rfl⟩ := k
  exact pfx_app h l
theorem pfx_set {w0 w : pW} (h : pfx w0 w) {i : Nat} (hi : w0.length ≤ i) (c : pCell) : pfx w0 (w.set i c) := by
  obtain ⟨l, rfl⟩ := h
  exact ⟨l.set (i - w0.length) c, List.set_append_right _ _ hi⟩
theorem pfx_cell {w0 w : pW} (h : pfx w0 w) {a : Nat} {c : pCell} (hc : w0[a]? = some c) : w[a]? = some c := by
  obtain ⟨l, rfl⟩ := h
  exact cell_app hc
theorem pfx_len {w0 w : pW} (h : pfx w0 w) : w0.length ≤ w.length := by
  obtain ⟨l, rfl⟩ := h
  rw [List.length_append]; omega
theorem OB_pfx {w0 w : pW} (k : pfx w0 w) {pre post : pW} {b : Nat} {S : St} {L M : List St} {K : St} (h : OB pre post b S L M K w0) : ∃ post' : pW, OB pre post' b S L M K w := by
  obtain ⟨l, rfl⟩ := k
  exact ⟨_, OB_app h l⟩
theorem shP_pfx {w0 w : pW} (k : pfx w0 w) {O Q : Nat → Prop} {a : Nat} {X : Sh} {pa fa ha : Nat} {pf gf hf : Nat → Option Nat} {ff : Nat → Nat} (h : shP w0 O Q a X pa fa ha pf gf hf ff) : shP w O Q a X pa fa ha pf gf hf ff := by
  obtain ⟨l, rfl⟩ := k
  exact shP_app h l
theorem row_pfx {w0 w : pW} (k : pfx w0 w) {r n : Nat} {f : Nat → Int} (h : rowI w0 r n f) : rowI w r n f := pfx_cell k h
theorem tab_pfx {w0 w : pW} (k : pfx w0 w) {q : Nat} {tf : Nat → Option Nat} {tr : Nat → Nat} {G : Nat → Nat → Int} (h : tabAt w0 q tf tr G) : tabAt w q tf tr G := ⟨pfx_cell k h.1, fun x hx => ⟨(h.2 x hx).1, row_pfx k (h.2 x hx).2⟩⟩
/-- a row is written: all other cells stand -/
theorem cell_set {w : pW} {i a : Nat} {c c' : pCell} (h : w[a]? = some c) (hn : i ≠ a) : (w.set i c')[a]? = some c := by
  rw [List.getElem?_set_ne hn]
  exact h
def updG (G : Nat → Nat → Int) (x y : Nat) (v : Int) : Nat → Nat → Int := fun p => if p = x then uZ (G x) y v else G p
theorem updG_at (G : Nat → Nat → Int) (x y : Nat) (v : Int) (p q : Nat) : updG G x y v p q = if p = x ∧ q = y then v else G p q := by
  unfold updG uZ
  by_cases h : p = x
  · subst h
    by_cases k : q = y
    · rw [if_pos rfl, if_pos k, if_pos ⟨rfl, k⟩]
    · rw [if_pos rfl, if_neg k, if_neg (fun z => k z.2)]
  · rw [if_neg h, if_neg (fun z => h z.1)]
theorem tab_set {w : pW} {q : Nat} {tf : Nat → Option Nat} {tr : Nat → Nat} {G : Nat → Nat → Int} (h : tabAt w q tf tr G) (hq : ∀ x : Nat, x < 40 → tr x ≠ q) (hi : ∀ x y : Nat, x < 40 → y < 40 → tr x = tr y → x = y) {x y : Nat} (hx : x < 40) (v : Int) : tabAt (w.set (tr x) (.inl (0, 40, .inl (fun j => iI (uZ (G x) y v j))))) q tf tr (updG G x y v) := by
  refine ⟨cell_set h.1 (hq x hx), fun p hp => ⟨(h.2 p hp).1, ?_⟩⟩
  by_cases e : p = x
  · subst e
    unfold updG
    rw [if_pos rfl]
    show (w.set (tr p) _)[tr p]? = some _
    rw [List.getElem?_set_self (get_lt (h.2 p hp).2)]
  · unfold updG
    rw [if_neg e]
    exact cell_set (h.2 p hp).2 (fun z => e (hi x p hx hp z).symm)
theorem St.Ok.ow_row {S : St} (h : S.Ok) {T : Nat} (hT : S.tn = (T : Int)) {x y c : Nat} (hx : x < 40) (hy : y < 40) (hc : c < 40) (he : S.ap (x * 40 + y) = (c : Int)) : ∃ t : Nat, t < T ∧ S.ow (x * 40 + y) = (t : Int) ∧ ((S.tl 1600)[t]? = some (x * 40 + y) ∨ (S.tl 1600)[t]? = some (y * 40 + c) ∨ (S.tl 1600)[t]? = some (c * 40 + x)) := by
  obtain ⟨hA, hcy, hp⟩ := h.M.1.PM
  obtain ⟨h2, h3⟩ := hcy x y c hx hy hc he
  obtain ⟨sx, sy, sc, hpos⟩ := hp x y c hx hy hc he
  obtain ⟨n1, n2, n3⟩ := St.sd3_ne hpos
  have hl := h.2.2.1
  have hrow := hl.1.2.2
  by_cases m1 : x < y ∧ x < c
  · obtain ⟨t, t1, t2⟩ := St.tri_idx hT hl hx hy sx m1.1 m1.2 he
    exact ⟨t, t1, (hrow t _ t2).1, Or.inl t2⟩
  · by_cases m2 : y < c ∧ y < x
    · obtain ⟨t, t1, t2⟩ := St.tri_idx hT hl hy hc sy m2.1 m2.2 h2
      refine ⟨t, t1, ?_, Or.inr (Or.inl t2)⟩
      have := (hrow t _ t2).2.2
      rw [h2, show (y * 40 + c) / 40 = y by omega, Int.toNat_natCast] at this
      exact this
    · obtain ⟨t, t1, t2⟩ := St.tri_idx hT hl hc hx sc (show c < x by omega) (show c < y by omega) h3
      refine ⟨t, t1, ?_, Or.inr (Or.inr t2)⟩
      have := (hrow t _ t2).2.1
      rw [h3, show (c * 40 + x) % 40 = x by omega, Int.toNat_natCast] at this
      exact this
/-- all that is known of a triangle of the list -/
def St.tri3 (S : St) (t a b c : Nat) : Prop := (a < 40 ∧ b < 40 ∧ c < 40) ∧ (a < b ∧ a < c) ∧ (S.cn t 0 = a ∧ S.cn t 1 = b ∧ S.cn t 2 = c) ∧ (S.has a ∧ S.has b ∧ S.has c) ∧ 0 < S.sd3 a b c ∧ (S.ap (a * 40 + b) = (c : Int) ∧ S.ap (b * 40 + c) = (a : Int) ∧ S.ap (c * 40 + a) = (b : Int)) ∧ (S.ow (a * 40 + b) = (t : Int) ∧ S.ow (b * 40 + c) = (t : Int) ∧ S.ow (c * 40 + a) = (t : Int)) ∧ (S.tl 1600)[t]? = some (a * 40 + b)
theorem St.Ok.tri3 {S : St} (h : S.Ok) {T : Nat} (hT : S.tn = (T : Int)) {t : Nat} (ht : t < T) : ∃ a b c : Nat, S.tri3 t a b c := by
  obtain ⟨a, b, c, ha, hb, hc, hab, hac, c0, c1, c2, he, hr⟩ := St.tri_at h.M.1.PM h.2.2.1 hT ht
  obtain ⟨hA, hcy, hp⟩ := h.M.1.PM
  obtain ⟨h2, h3⟩ := hcy a b c ha hb hc he
  obtain ⟨sx, sy, sc, hpos⟩ := hp a b c ha hb hc he
  have hrow := h.2.2.1.1.2.2 t _ hr
  refine ⟨a, b, c, ⟨ha, hb, hc⟩, ⟨hab, hac⟩, ⟨c0, c1, c2⟩, ⟨sx, sy, sc⟩, hpos, ⟨he, h2, h3⟩, ⟨hrow.1, ?_, ?_⟩, hr⟩
  · have := hrow.2.1
    rw [he, show (a * 40 + b) % 40 = b by omega, Int.toNat_natCast] at this
    exact this
  · have := hrow.2.2
    rw [he, show (a * 40 + b) / 40 = a by omega, Int.toNat_natCast] at this
    exact this
theorem St.tri3.sid {S : St} {t a b c : Nat} (h : S.tri3 t a b c) : S.sid a b = (t : Int) + 1 ∧ S.sid b c = (t : Int) + 1 ∧ S.sid c a = (t : Int) + 1 := by
  obtain ⟨-, -, -, -, -, ⟨e1, e2, e3⟩, ⟨o1, o2, o3⟩, -⟩ := h
  unfold St.sid
  refine ⟨?_, ?_, ?_⟩
  · rw [if_neg (by omega), o1]
  · rw [if_neg (by omega), o2]
  · rw [if_neg (by omega), o3]
/-- who has t + 1 in the table is a side of t -/
theorem St.Ok.sid_side {S : St} (h : S.Ok) {T : Nat} (hT : S.tn = (T : Int)) {t a b c : Nat} (k : S.tri3 t a b c) {x y : Nat} (hx : x < 40) (hy : y < 40) (hs : S.sid x y = (t : Int) + 1) : (x = a ∧ y = b) ∨ (x = b ∧ y = c) ∨ (x = c ∧ y = a) := by
  obtain ⟨⟨ha, hb, hc⟩, -, -, -, -, ⟨e1, e2, e3⟩, -, hr⟩ := k
  unfold St.sid at hs
  split at hs
  · omega
  · rename_i hn
    have a1 := h.M.1.PM.1 (x * 40 + y) (by omega)
    obtain ⟨z, hz⟩ := Int.eq_ofNat_of_zero_le (show 0 ≤ S.ap (x * 40 + y) by omega)
    have hz4 : z < 40 := by omega
    obtain ⟨t', t1, t2, t3⟩ := h.ow_row hT hx hy hz4 hz
    have et : t' = t := by omega
    subst et
    obtain ⟨h2, h3⟩ := h.M.1.PM.2.1 x y z hx hy hz4 hz
    rcases t3 with g | g | g
    · rw [hr] at g
      have g := Option.some.inj g
      exact Or.inl ⟨by omega, by omega⟩
    · rw [hr] at g
      have g := Option.some.inj g
      have ey : y = a := by omega
      have ez : z = b := by omega
      subst ey ez
      refine Or.inr (Or.inr ⟨?_, rfl⟩)
      omega
    · rw [hr] at g
      have g := Option.some.inj g
      have ez : z = a := by omega
      have ex : x = b := by omega
      subst ez ex
      refine Or.inr (Or.inl ⟨rfl, ?_⟩)
      omega
/-- the table behind the triangles ahead of t -/
def St.tabT (S : St) (t : Nat) (G : Nat → Nat → Int) : Prop := ∀ x y : Nat, x < 40 → y < 40 → G x y = if S.sid x y ≤ (t : Int) then S.sid x y else 0
theorem St.Ok.tabT_step {S : St} (h : S.Ok) {T : Nat} (hT : S.tn = (T : Int)) {t a b c : Nat} (k : S.tri3 t a b c) {G : Nat → Nat → Int} (hG : S.tabT t G) : S.tabT (t + 1) (updG (updG (updG G a b ((t : Int) + 1)) b c ((t : Int) + 1)) c a ((t : Int) + 1)) := by
  intro x y hx hy
  obtain ⟨s1, s2, s3⟩ := k.sid
  rw [updG_at, updG_at, updG_at, hG x y hx hy]
  have hw := fun hs => h.sid_side hT k hx hy hs
  have key : S.sid x y ≠ (t : Int) + 1 → (if S.sid x y ≤ (t : Int) then S.sid x y else 0) = if S.sid x y ≤ ((t + 1 : Nat) : Int) then S.sid x y else 0 := by
    intro hn
    by_cases z : S.sid x y ≤ (t : Int)
    · rw [if_pos z, if_pos (by omega)]
    · rw [if_neg z, if_neg (by omega)]
  by_cases m3 : x = c ∧ y = a
  · rw [if_pos m3, m3.1, m3.2, s3, if_pos (by omega)]
  · rw [if_neg m3]
    by_cases m2 : x = b ∧ y = c
    · rw [if_pos m2, m2.1, m2.2, s2, if_pos (by omega)]
    · rw [if_neg m2]
      by_cases m1 : x = a ∧ y = b
      · rw [if_pos m1, m1.1, m1.2, s1, if_pos (by omega)]
      · rw [if_neg m1]
        refine key (fun hs => ?_)
        rcases hw hs with z | z | z
        · exact m1 z
        · exact m2 z
        · exact m3 z
theorem St.Ok.tabT_0 {S : St} (h : S.Ok) {T : Nat} (hT : S.tn = (T : Int)) : S.tabT 0 (fun _ _ => 0) := by
  intro x y hx hy
  have := h.sid_b hT hx hy
  show (0 : Int) = _
  split <;> omega
theorem St.Ok.tabT_T {S : St} (h : S.Ok) {T : Nat} (hT : S.tn = (T : Int)) {G : Nat → Nat → Int} (hG : S.tabT T G) {x y : Nat} (hx : x < 40) (hy : y < 40) : G x y = S.sid x y := by
  rw [hG x y hx hy, if_pos (h.sid_b hT hx hy).2]
/-- the sides of t aren't in the table yet -/
theorem St.tri3.zero {S : St} {t a b c : Nat} (k : S.tri3 t a b c) {G : Nat → Nat → Int} (hG : S.tabT t G) : G a b = 0 ∧ G b c = 0 ∧ G c a = 0 := by
  obtain ⟨s1, s2, s3⟩ := k.sid
  obtain ⟨⟨ha, hb, hc⟩, -⟩ := k
  rw [hG a b ha hb, hG b c hb hc, hG c a hc ha, s1, s2, s3, if_neg (by omega)]
  exact ⟨rfl, rfl, rfl⟩
/-- the list is in order -/
theorem St.tri3.lt {S : St} {t a b c a' b' c' : Nat} (k : S.tri3 t a b c) (k' : S.tri3 (t + 1) a' b' c') : 1600 * (a : Int) + 40 * (b : Int) + (c : Int) < 1600 * (a' : Int) + 40 * (b' : Int) + (c' : Int) := by
  have := St.tl_lt (show t < t + 1 by omega) k.2.2.2.2.2.2.2 k'.2.2.2.2.2.2.2
  have := k.1.2.2
  omega
/-- no other point within -/
theorem St.Ok.alone3 {S : St} (h : S.Ok) {t a b c : Nat} (k : S.tri3 t a b c) {q : Nat} (hq : q < 40) (sq : S.has q) (n1 : q ≠ a) (n2 : q ≠ b) (n3 : q ≠ c) : S.sd3 a b q < 0 ∨ S.sd3 b c q < 0 ∨ S.sd3 c a q < 0 := by
  apply Classical.byContradiction
  intro hn
  have := St.alone h.M.1 k.1.1 k.1.2.1 k.1.2.2 k.2.2.2.2.2.1.1 hq sq (by omega) (by omega) (by omega)
  omega
theorem St.sd3_sd2 {S : St} {X : Sh} (hR : Rel S X) {a b c : Nat} (ha : a < 40) (hb : b < 40) (hc : c < 40) (sa : S.has a) (sb : S.has b) (sc : S.has c) : sd2 (X.cx a) (X.cy a) (X.cx b) (X.cy b) (X.cx c) (X.cy c) = S.sd3 a b c := by
  obtain ⟨a1, a2, -⟩ := hR.2.1 a ha sa
  obtain ⟨b1, b2, -⟩ := hR.2.1 b hb sb
  obtain ⟨c1, c2, -⟩ := hR.2.1 c hc sc
  rw [a1, a2, b1, b2, c1, c2]
  rfl
