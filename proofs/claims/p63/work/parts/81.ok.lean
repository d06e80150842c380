/-! A STATE BETWEEN CALLS: a mesh at rest, its rows made, numbers within their bounds; the first one; one given back. By hand. -/
def St.Rg (S : St) : Prop := (0 ≤ S.hn ∧ S.hn ≤ 8) ∧ (0 ≤ S.g ∧ S.g < 30047) ∧ (∀ k : Nat, 40 ≤ k → bt S.th k = false) ∧ (∀ p : Nat, p < 40 → ∀ k : Nat, 40 ≤ k → bt (S.fx p) k = false) ∧ ∀ p : Nat, p < 40 → -9999 ≤ S.hs p ∧ S.hs p ≤ 9999
def St.Ok (S : St) : Prop := S.Gd ∧ S.lstE 1600 ∧ S.lstT 1600 ∧ S.okR ∧ S.Rg
theorem St.cong_ul (S : St) (hB : S.inB) (ow co en : Nat → Int) (ne : Nat → Int64) (tn ec : Int) : S.cong (S.ul ow co en ne tn ec) := ⟨hB, fun _ _ => Iff.rfl, fun _ _ _ => ⟨rfl, rfl⟩, fun _ _ => rfl, fun _ _ _ _ => Iff.rfl⟩
theorem St.Gd_ul {S : St} (h : S.Gd) {ow co en : Nat → Int} {ne : Nat → Int64} {tn ec : Int} (hE : (S.ul ow co en ne tn ec).lstE 1600) (hT : (S.ul ow co en ne tn ec).lstT 1600) : (S.ul ow co en ne tn ec).Gd := by
  obtain ⟨hM, hD, hI, hq, hn, hc⟩ := h
  have hcg := St.cong_ul S hI.B ow co en ne tn ec
  exact ⟨St.cong_Msh hcg hM, St.cong_Del hcg hM.1 hD, ⟨hI.A, hI.Q, hI.B, hI.I, hI.U, hT.2, hE.2⟩, hq, hn, hc⟩
/-- what is listed behind a change that is settled -/
theorem St.Ok_of {S : St} (h : S.Gd) (hR : S.okR) (hg : S.Rg) {ow co en : Nat → Int} {ne : Nat → Int64} {tn ec : Int} (hE : (S.ul ow co en ne tn ec).lstE 1600) (hT : (S.ul ow co en ne tn ec).lstT 1600) : (S.ul ow co en ne tn ec).Ok := ⟨St.Gd_ul h hE hT, hE, hT, hR, hg⟩
theorem St.Ok.T {S : St} (h : S.Ok) : ∃ T : Nat, S.tn = (T : Int) ∧ T ≤ 74 := ⟨_, h.2.2.1.1.1, (St.Msh_okL h.1.1 h.1.2.2.2.2.2.1).2.2.1⟩
theorem St.Ok.E {S : St} (h : S.Ok) : ∃ E : Nat, S.ec = (E : Int) ∧ E ≤ 113 := ⟨_, h.2.1.1.1, (St.Msh_okL h.1.1 h.1.2.2.2.2.2.1).2.2.2⟩
theorem St.Ok.I {S : St} (h : S.Ok) : S.wI := h.1.2.2.1
theorem St.Ok.M {S : St} (h : S.Ok) : S.Msh := h.1.1
theorem St.Ok.B {S : St} (h : S.Ok) : S.inB := h.1.2.2.1.B
theorem St.Ok.Co {S : St} (h : S.Ok) : S.Cor := h.1.2.2.2.2.2.1
theorem St.Ok.li {S : St} (h : S.Ok) : S.liOk := h.1.2.2.2.2.2.2
/-! given back -/
/-- a state with what slot k holds, laid anew, is at rest -/
theorem St.give_ok {S K : St} {f : Nat → Int} {g : Nat → Int64} {k : Nat} (hK : keptAt f g k K) (kO : K.Ok) (sO : S.Ok) {T : Nat} (hT : f (361 * k + 138) = (T : Int)) {ap0 li : Nat → Int} (h0 : ∀ i : Nat, i < 1600 → ap0 i = -1) (hli : ∀ j : Nat, j < 40 → li j = (S.tk k f g).liR j) : ((layR (fun j => f (361 * k + 139 + j)) T ((S.tk k f g).u_ap ap0)).u_li li).Gd ∧ ((layR (fun j => f (361 * k + 139 + j)) T ((S.tk k f g).u_ap ap0)).u_li li).okR ∧ ((layR (fun j => f (361 * k + 139 + j)) T ((S.tk k f g).u_ap ap0)).u_li li).Rg := by
  obtain ⟨h1, h2, h3, h4, h5, h6, h7⟩ := hK
  have hTK : K.tn = (T : Int) := by rw [← h6]; exact hT
  obtain ⟨T9, hT9, hT74⟩ := kO.T
  have hTT : T ≤ 74 := by omega
  have hap := layR_all (c := fun j => f (361 * k + 139 + j)) (S := (S.tk k f g).u_ap ap0) kO.M.1 kO.2.2.1 hTK (fun j hj => h7 j (by omega)) h0
  obtain ⟨ap, e⟩ := layR_O (fun j => f (361 * k + 139 + j)) T ((S.tk k f g).u_ap ap0)
  rw [e] at hap ⊢
  have x1 : ∀ j : Nat, j < 40 → ((((S.tk k f g).u_ap ap0).u_ap ap).u_li li).xs j = K.xs j := fun j hj => by
    show zcpy f S.xs (361 * k) 0 40 j = _
    rw [zcpy_in (by omega) (by omega), ← (h1 j hj).1]; congr 1
  have x2 : ∀ j : Nat, j < 40 → ((((S.tk k f g).u_ap ap0).u_ap ap).u_li li).ys j = K.ys j := fun j hj => by
    show zcpy f S.ys (361 * k + 40) 0 40 j = _
    rw [zcpy_in (by omega) (by omega), ← (h1 j hj).2.1]; congr 1
  have x3 : ∀ j : Nat, j < 40 → ((((S.tk k f g).u_ap ap0).u_ap ap).u_li li).hs j = K.hs j := fun j hj => by
    show zcpy f S.hs (361 * k + 80) 0 40 j = _
    rw [zcpy_in (by omega) (by omega), ← (h1 j hj).2.2.1]; congr 1
  have x4 : ∀ j : Nat, j < 40 → ((((S.tk k f g).u_ap ap0).u_ap ap).u_li li).fx j = K.fx j := fun j hj => by
    show zcpy g S.fx (41 * k) 0 40 j = _
    rw [zcpy_in (by omega) (by omega), ← (h1 j hj).2.2.2]; congr 1
  have x5 : ((((S.tk k f g).u_ap ap0).u_ap ap).u_li li).th = K.th := h3
  have x6 : ((((S.tk k f g).u_ap ap0).u_ap ap).u_li li).hn = K.hn := h4
  have x7 : ((((S.tk k f g).u_ap ap0).u_ap ap).u_li li).g = K.g := h5
  have hB : ((((S.tk k f g).u_ap ap0).u_ap ap).u_li li).inB := fun j hj => by
    rw [x1 j hj, x2 j hj]
    exact kO.B j hj
  have hcg : K.cong ((((S.tk k f g).u_ap ap0).u_ap ap).u_li li) := ⟨hB, fun p hp => by unfold St.has; rw [x5], fun p hp _ => ⟨x1 p hp, x2 p hp⟩, hap, fun u v hu hv => by unfold St.bound; rw [x4 u hu]⟩
  have hM := St.cong_Msh hcg kO.M
  have hA : ((((S.tk k f g).u_ap ap0).u_ap ap).u_li li).okA := hM.1.PM.1
  have hlb : ((((S.tk k f g).u_ap ap0).u_ap ap).u_li li).liB := fun j hj => by
    show 0 ≤ li j ∧ li j ≤ 8000000
    rw [hli j hj]
    exact St.liR_b (S := S.tk k f g) hB hj
  have hcor : ((((S.tk k f g).u_ap ap0).u_ap ap).u_li li).Cor := by
    obtain ⟨c0, c1, c2, c3, c4⟩ := kO.Co
    refine ⟨?_, ?_, ?_, ?_, ?_⟩
    · unfold St.has at *
      rw [x5]
      exact c0
    · rw [x1 _ (by decide), x2 _ (by decide)]; exact c1
    · rw [x1 _ (by decide), x2 _ (by decide)]; exact c2
    · rw [x1 _ (by decide), x2 _ (by decide)]; exact c3
    · rw [x1 _ (by decide), x2 _ (by decide)]; exact c4
  refine ⟨⟨hM, St.cong_Del hcg kO.M.1 kO.1.2.1, ⟨hA, sO.I.Q, hB, hlb, sO.I.U, sO.I.CN⟩, sO.1.2.2.2.1, sO.1.2.2.2.2.1, hcor, fun j hj => hli j hj⟩, sO.2.2.2.1, ?_⟩
  obtain ⟨r1, r2, r3, r4, r5⟩ := kO.2.2.2.2
  refine ⟨by rw [x6]; exact r1, by rw [x7]; exact r2, by rw [x5]; exact r3, fun p hp => by rw [x4 p hp]; exact r4 p hp, fun p hp => by rw [x3 p hp]; exact r5 p hp⟩
/-! at first -/
def St.zero : St := sM (fun _ => 0) (fun _ => 0) (fun _ => 0) (fun _ => 0) (fun _ => 0) (fun _ => 0) 0 0 0 (fun _ => 0) (fun _ => 0) (fun _ => 0) (fun _ => 0) (fun _ => 0) (fun _ => 0) 0 0 (fun _ => 0) (fun _ => 0) (fun _ => 0) 0
theorem St.st2_x (f : Nat → Int) (j : Nat) : (St.zero.st2 f).xs j = (if j = 3 then -1000 else if j = 2 then 1000 else if j = 1 then 1000 else if j = 0 then -1000 else 0) := rfl
theorem St.st2_y (f : Nat → Int) (j : Nat) : (St.zero.st2 f).ys j = (if j = 3 then 1000 else if j = 2 then 1000 else if j = 1 then -1000 else if j = 0 then -1000 else 0) := rfl
theorem St.st2_th (f : Nat → Int) : (St.zero.st2 f).th = bSet (bSet (bSet (bSet 0 0) 1) 2) 3 := rfl
theorem St.st2_has (f : Nat → Int) (k : Nat) : bt (St.zero.st2 f).th k = decide (k < 4) := by
  rw [St.st2_th, bt_set (by decide), bt_set (by decide), bt_set (by decide), bt_set (by decide), bt_0]
  by_cases h0 : k = 0
  · subst h0; rfl
  · by_cases h1 : k = 1
    · subst h1; rfl
    · by_cases h2 : k = 2
      · subst h2; rfl
      · by_cases h3 : k = 3
        · subst h3; rfl
        · have : ¬ k < 4 := by omega
          simp [h0, h1, h2, h3, this]
theorem St.bd1_b {S : St} {a b u v : Nat} (hab : a ≠ b) (ha : a < 64) (hb : b < 64) : bt ((S.bd1 a b).fx u) v = (bt (S.fx u) v || (decide (u = a ∧ v = b) || decide (u = b ∧ v = a))) := by
  show bt (vp_updL (vp_updL S.fx a (bSet (S.fx a) b)) b (bSet (vp_updL S.fx a (bSet (S.fx a) b) b) a) u) v = _
  have hne : b ≠ a := fun z => hab z.symm
  unfold vp_updL
  rw [if_neg hne]
  by_cases c1 : u = b
  · subst c1
    rw [if_pos rfl, bt_set ha]
    have : ¬ (u = a ∧ v = u) := fun z => hab z.1.symm
    simp [this]
  · rw [if_neg c1]
    by_cases c2 : u = a
    · subst c2
      rw [if_pos rfl, bt_set hb]
      have : ¬ (u = b ∧ v = u) := fun z => c1 z.1
      simp [this]
    · rw [if_neg c2]
      simp [c1, c2]
theorem St.lay_fx9 (S : St) (a b c : Nat) : (S.lay a b c).fx = S.fx := rfl
theorem St.uap_fx9 (S : St) (v : Nat → Int) : (S.u_ap v).fx = S.fx := rfl
theorem St.ug_fx9 (S : St) (v : Int) : (S.u_g v).fx = S.fx := rfl
theorem St.pl1_fx9 (S : St) (p : Nat) (x y : Int) : (S.pl1 p x y).fx = S.fx := rfl
theorem St.zero_fx9 : St.zero.fx = fun _ => 0 := rfl
theorem St.st2_bd (f : Nat → Int) (u v : Nat) : bt ((St.zero.st2 f).fx u) v = (((((false || (decide (u = 0 ∧ v = 1) || decide (u = 1 ∧ v = 0))) || (decide (u = 1 ∧ v = 2) || decide (u = 2 ∧ v = 1))) || (decide (u = 2 ∧ v = 3) || decide (u = 3 ∧ v = 2)))) || (decide (u = 3 ∧ v = 0) || decide (u = 0 ∧ v = 3))) := by
  unfold St.st2 St.st1
  rw [St.lay_fx9, St.lay_fx9, St.bd1_b (by decide) (by decide) (by decide), St.bd1_b (by decide) (by decide) (by decide), St.bd1_b (by decide) (by decide) (by decide), St.bd1_b (by decide) (by decide) (by decide), St.uap_fx9, St.ug_fx9, St.pl1_fx9, St.pl1_fx9, St.pl1_fx9, St.pl1_fx9, St.zero_fx9, bt_0]
theorem St.st2_New {f : Nat → Int} (hf : ∀ i : Nat, i < 1600 → f i = -1) : (St.zero.st2 f).New := by
  refine ⟨fun j hj => ?_, ⟨⟨?_, ?_, ?_, ?_⟩, ⟨rfl, rfl⟩, ⟨rfl, rfl⟩, ⟨rfl, rfl⟩, ⟨rfl, rfl⟩⟩, fun u hu => ?_, fun e he => ?_, fun u v hu hv => ?_⟩
  · rw [St.st2_x, St.st2_y]
    (repeat' split) <;> omega
  · unfold St.has; rw [St.st2_has]; rfl
  · unfold St.has; rw [St.st2_has]; rfl
  · unfold St.has; rw [St.st2_has]; rfl
  · unfold St.has; rw [St.st2_has]; rfl
  · unfold St.has
    rw [St.st2_has]
    exact decide_eq_true_iff
  · have h9 := hf e he
    show ap3 (ap3 f 0 1 2 2 0 1) 0 2 3 3 0 2 e = apc e
    rcases apc_cases e with ⟨z, w⟩ | ⟨z, w⟩ | ⟨z, w⟩ | ⟨z, w⟩ | ⟨z, w⟩ | ⟨z, w⟩ | ⟨z1, z2, z3, z4, z5, z6, w⟩
    · rw [w]; subst z; rfl
    · rw [w]; subst z; rfl
    · rw [w]; subst z; rfl
    · rw [w]; subst z; rfl
    · rw [w]; subst z; rfl
    · rw [w]; subst z; rfl
    · rw [w]
      unfold ap3
      rw [uZ_ne (by omega), uZ_ne (by omega), uZ_ne (by omega), uZ_ne (by omega), uZ_ne (by omega), uZ_ne (by omega)]
      exact h9
  · unfold St.bound
    rw [St.st2_bd]
    simp only [Bool.or_eq_true, decide_eq_true_eq, Bool.false_or]
    grind
theorem St.lay_hs9 (S : St) (a b c : Nat) : (S.lay a b c).hs = S.hs := rfl
theorem St.bd1_hs9 (S : St) (a b : Nat) : (S.bd1 a b).hs = S.hs := rfl
theorem St.uap_hs9 (S : St) (v : Nat → Int) : (S.u_ap v).hs = S.hs := rfl
theorem St.ug_hs9 (S : St) (v : Int) : (S.u_g v).hs = S.hs := rfl
theorem St.pl1_hs9 (S : St) (p : Nat) (x y : Int) : (S.pl1 p x y).hs = S.hs := rfl
theorem St.zero_hs9 : St.zero.hs = fun _ => 0 := rfl
theorem St.uli_hs9 (S : St) (v : Nat → Int) : (S.u_li v).hs = S.hs := rfl
theorem St.st2_hs9 (f li : Nat → Int) : ((St.zero.st2 f).u_li li).hs = fun _ => 0 := by
  rw [St.uli_hs9]
  unfold St.st2 St.st1
  rw [St.lay_hs9, St.lay_hs9, St.bd1_hs9, St.bd1_hs9, St.bd1_hs9, St.bd1_hs9, St.uap_hs9, St.ug_hs9, St.pl1_hs9, St.pl1_hs9, St.pl1_hs9, St.pl1_hs9, St.zero_hs9]
theorem St.lay_hn9 (S : St) (a b c : Nat) : (S.lay a b c).hn = S.hn := rfl
theorem St.bd1_hn9 (S : St) (a b : Nat) : (S.bd1 a b).hn = S.hn := rfl
theorem St.uap_hn9 (S : St) (v : Nat → Int) : (S.u_ap v).hn = S.hn := rfl
theorem St.ug_hn9 (S : St) (v : Int) : (S.u_g v).hn = S.hn := rfl
theorem St.pl1_hn9 (S : St) (p : Nat) (x y : Int) : (S.pl1 p x y).hn = S.hn := rfl
theorem St.zero_hn9 : St.zero.hn = 0 := rfl
theorem St.uli_hn9 (S : St) (v : Nat → Int) : (S.u_li v).hn = S.hn := rfl
theorem St.st2_hn9 (f li : Nat → Int) : ((St.zero.st2 f).u_li li).hn = 0 := by
  rw [St.uli_hn9]
  unfold St.st2 St.st1
  rw [St.lay_hn9, St.lay_hn9, St.bd1_hn9, St.bd1_hn9, St.bd1_hn9, St.bd1_hn9, St.uap_hn9, St.ug_hn9, St.pl1_hn9, St.pl1_hn9, St.pl1_hn9, St.pl1_hn9, St.zero_hn9]
theorem St.lay_co9 (S : St) (a b c : Nat) : (S.lay a b c).co = S.co := rfl
theorem St.bd1_co9 (S : St) (a b : Nat) : (S.bd1 a b).co = S.co := rfl
theorem St.uap_co9 (S : St) (v : Nat → Int) : (S.u_ap v).co = S.co := rfl
theorem St.ug_co9 (S : St) (v : Int) : (S.u_g v).co = S.co := rfl
theorem St.pl1_co9 (S : St) (p : Nat) (x y : Int) : (S.pl1 p x y).co = S.co := rfl
theorem St.zero_co9 : St.zero.co = fun _ => 0 := rfl
theorem St.uli_co9 (S : St) (v : Nat → Int) : (S.u_li v).co = S.co := rfl
theorem St.st2_co9 (f li : Nat → Int) : ((St.zero.st2 f).u_li li).co = fun _ => 0 := by
  rw [St.uli_co9]
  unfold St.st2 St.st1
  rw [St.lay_co9, St.lay_co9, St.bd1_co9, St.bd1_co9, St.bd1_co9, St.bd1_co9, St.uap_co9, St.ug_co9, St.pl1_co9, St.pl1_co9, St.pl1_co9, St.pl1_co9, St.zero_co9]
theorem St.lay_en9 (S : St) (a b c : Nat) : (S.lay a b c).en = S.en := rfl
theorem St.bd1_en9 (S : St) (a b : Nat) : (S.bd1 a b).en = S.en := rfl
theorem St.uap_en9 (S : St) (v : Nat → Int) : (S.u_ap v).en = S.en := rfl
theorem St.ug_en9 (S : St) (v : Int) : (S.u_g v).en = S.en := rfl
theorem St.pl1_en9 (S : St) (p : Nat) (x y : Int) : (S.pl1 p x y).en = S.en := rfl
theorem St.zero_en9 : St.zero.en = fun _ => 0 := rfl
theorem St.uli_en9 (S : St) (v : Nat → Int) : (S.u_li v).en = S.en := rfl
theorem St.st2_en9 (f li : Nat → Int) : ((St.zero.st2 f).u_li li).en = fun _ => 0 := by
  rw [St.uli_en9]
  unfold St.st2 St.st1
  rw [St.lay_en9, St.lay_en9, St.bd1_en9, St.bd1_en9, St.bd1_en9, St.bd1_en9, St.uap_en9, St.ug_en9, St.pl1_en9, St.pl1_en9, St.pl1_en9, St.pl1_en9, St.zero_en9]
theorem St.lay_rd9 (S : St) (a b c : Nat) : (S.lay a b c).rd = S.rd := rfl
theorem St.bd1_rd9 (S : St) (a b : Nat) : (S.bd1 a b).rd = S.rd := rfl
theorem St.uap_rd9 (S : St) (v : Nat → Int) : (S.u_ap v).rd = S.rd := rfl
theorem St.ug_rd9 (S : St) (v : Int) : (S.u_g v).rd = S.rd := rfl
theorem St.pl1_rd9 (S : St) (p : Nat) (x y : Int) : (S.pl1 p x y).rd = S.rd := rfl
theorem St.zero_rd9 : St.zero.rd = fun _ => 0 := rfl
theorem St.uli_rd9 (S : St) (v : Nat → Int) : (S.u_li v).rd = S.rd := rfl
theorem St.st2_rd9 (f li : Nat → Int) : ((St.zero.st2 f).u_li li).rd = fun _ => 0 := by
  rw [St.uli_rd9]
  unfold St.st2 St.st1
  rw [St.lay_rd9, St.lay_rd9, St.bd1_rd9, St.bd1_rd9, St.bd1_rd9, St.bd1_rd9, St.uap_rd9, St.ug_rd9, St.pl1_rd9, St.pl1_rd9, St.pl1_rd9, St.pl1_rd9, St.zero_rd9]
theorem St.lay_wa9 (S : St) (a b c : Nat) : (S.lay a b c).wa = S.wa := rfl
theorem St.bd1_wa9 (S : St) (a b : Nat) : (S.bd1 a b).wa = S.wa := rfl
theorem St.uap_wa9 (S : St) (v : Nat → Int) : (S.u_ap v).wa = S.wa := rfl
theorem St.ug_wa9 (S : St) (v : Int) : (S.u_g v).wa = S.wa := rfl
theorem St.pl1_wa9 (S : St) (p : Nat) (x y : Int) : (S.pl1 p x y).wa = S.wa := rfl
theorem St.zero_wa9 : St.zero.wa = fun _ => 0 := rfl
theorem St.uli_wa9 (S : St) (v : Nat → Int) : (S.u_li v).wa = S.wa := rfl
theorem St.st2_wa9 (f li : Nat → Int) : ((St.zero.st2 f).u_li li).wa = fun _ => 0 := by
  rw [St.uli_wa9]
  unfold St.st2 St.st1
  rw [St.lay_wa9, St.lay_wa9, St.bd1_wa9, St.bd1_wa9, St.bd1_wa9, St.bd1_wa9, St.uap_wa9, St.ug_wa9, St.pl1_wa9, St.pl1_wa9, St.pl1_wa9, St.pl1_wa9, St.zero_wa9]
theorem St.lay_qu9 (S : St) (a b c : Nat) : (S.lay a b c).qu = S.qu := rfl
theorem St.bd1_qu9 (S : St) (a b : Nat) : (S.bd1 a b).qu = S.qu := rfl
theorem St.uap_qu9 (S : St) (v : Nat → Int) : (S.u_ap v).qu = S.qu := rfl
theorem St.ug_qu9 (S : St) (v : Int) : (S.u_g v).qu = S.qu := rfl
theorem St.pl1_qu9 (S : St) (p : Nat) (x y : Int) : (S.pl1 p x y).qu = S.qu := rfl
theorem St.zero_qu9 : St.zero.qu = fun _ => 0 := rfl
theorem St.uli_qu9 (S : St) (v : Nat → Int) : (S.u_li v).qu = S.qu := rfl
theorem St.st2_qu9 (f li : Nat → Int) : ((St.zero.st2 f).u_li li).qu = fun _ => 0 := by
  rw [St.uli_qu9]
  unfold St.st2 St.st1
  rw [St.lay_qu9, St.lay_qu9, St.bd1_qu9, St.bd1_qu9, St.bd1_qu9, St.bd1_qu9, St.uap_qu9, St.ug_qu9, St.pl1_qu9, St.pl1_qu9, St.pl1_qu9, St.pl1_qu9, St.zero_qu9]
theorem St.lay_qn9 (S : St) (a b c : Nat) : (S.lay a b c).qn = S.qn := rfl
theorem St.bd1_qn9 (S : St) (a b : Nat) : (S.bd1 a b).qn = S.qn := rfl
theorem St.uap_qn9 (S : St) (v : Nat → Int) : (S.u_ap v).qn = S.qn := rfl
theorem St.ug_qn9 (S : St) (v : Int) : (S.u_g v).qn = S.qn := rfl
theorem St.pl1_qn9 (S : St) (p : Nat) (x y : Int) : (S.pl1 p x y).qn = S.qn := rfl
theorem St.zero_qn9 : St.zero.qn = 0 := rfl
theorem St.uli_qn9 (S : St) (v : Nat → Int) : (S.u_li v).qn = S.qn := rfl
theorem St.st2_qn9 (f li : Nat → Int) : ((St.zero.st2 f).u_li li).qn = 0 := by
  rw [St.uli_qn9]
  unfold St.st2 St.st1
  rw [St.lay_qn9, St.lay_qn9, St.bd1_qn9, St.bd1_qn9, St.bd1_qn9, St.bd1_qn9, St.uap_qn9, St.ug_qn9, St.pl1_qn9, St.pl1_qn9, St.pl1_qn9, St.pl1_qn9, St.zero_qn9]
theorem St.lay_g9 (S : St) (a b c : Nat) : (S.lay a b c).g = S.g := rfl
theorem St.bd1_g9 (S : St) (a b : Nat) : (S.bd1 a b).g = S.g := rfl
theorem St.uap_g9 (S : St) (v : Nat → Int) : (S.u_ap v).g = S.g := rfl
theorem St.ug_g9 (S : St) (v : Int) : (S.u_g v).g = v := rfl
theorem St.uli_g9 (S : St) (v : Nat → Int) : (S.u_li v).g = S.g := rfl
theorem St.st2_g9 (f li : Nat → Int) : ((St.zero.st2 f).u_li li).g = 313 := by
  rw [St.uli_g9]
  unfold St.st2 St.st1
  rw [St.lay_g9, St.lay_g9, St.bd1_g9, St.bd1_g9, St.bd1_g9, St.bd1_g9, St.uap_g9, St.ug_g9]
theorem St.first_gen {Q R : St} {li : Nat → Int} (hN : Q.New) (hli : ∀ j : Nat, j < 40 → li j = Q.liR j) (e1 : R.hs = fun _ => 0) (e2 : R.hn = 0) (e3 : R.co = fun _ => 0) (e4 : R.en = fun _ => 0) (e5 : R.rd = fun _ => 0) (e6 : R.wa = fun _ => 0) (e7 : R.qu = fun _ => 0) (e8 : R.qn = 0) (e9 : R.g = 313) (t1 : ∀ k : Nat, bt Q.th k = decide (k < 4)) (b1 : ∀ u v : Nat, bt (Q.fx u) v = (((((false || (decide (u = 0 ∧ v = 1) || decide (u = 1 ∧ v = 0))) || (decide (u = 1 ∧ v = 2) || decide (u = 2 ∧ v = 1))) || (decide (u = 2 ∧ v = 3) || decide (u = 3 ∧ v = 2)))) || (decide (u = 3 ∧ v = 0) || decide (u = 0 ∧ v = 3)))) (ew : R.li = li) (w1 : R.xs = Q.xs) (w2 : R.ys = Q.ys) (w3 : R.th = Q.th) (w4 : R.fx = Q.fx) (w5 : R.ap = Q.ap) : R.Gd ∧ R.okR ∧ R.Rg := by
  have hM := St.New_Msh hN
  have hD := St.New_Del hN
  have hB : R.inB := fun j hj => by rw [w1, w2]; exact hN.1 j hj
  have hcg : Q.cong R := ⟨hB, fun p _ => by unfold St.has; rw [w3], fun p _ _ => ⟨by rw [w1], by rw [w2]⟩, fun e _ => by rw [w5], fun u v _ _ => by unfold St.bound; rw [w4]⟩
  have hM2 := St.cong_Msh hcg hM
  refine ⟨⟨hM2, St.cong_Del hcg hM.1 hD, ⟨hM2.1.PM.1, ?_, hB, fun j hj => ?_, fun j hj => ?_, fun j hj => ?_, fun j hj => ?_⟩, ⟨fun i hi => ?_, fun i j hij hj => ?_, fun lo hi h1 h2 hw9 => ?_, ?_⟩, e8, St.Cor_eq w1 w2 w3 hN.2.1, fun j hj => by rw [ew, hli j hj]; unfold St.liR; rw [w1, w2]⟩, fun j hj => ?_, ⟨?_, ?_, fun k hk => ?_, fun p hp k hk => ?_, fun p hp => ?_⟩⟩
  · unfold okQ; rw [e8]; decide
  · rw [ew, hli j hj]; exact St.liR_b hN.1 hj
  · rw [e7]; exact ⟨Int.le_refl 0, (by decide : (0 : Int) < 1600)⟩
  · rw [e3]; exact ⟨Int.le_refl 0, (by decide : (0 : Int) < 40)⟩
  · rw [e4]; exact ⟨Int.le_refl 0, (by decide : (0 : Int) < 40)⟩
  · rw [e8] at hi; omega
  · rw [e8] at hj; omega
  · unfold St.wt at hw9; rw [e6, bt_0] at hw9; cases hw9
  · rw [e8]; decide
  · rw [e5]; exact ⟨Int.le_refl 0, (by decide : (0 : Int) < 40)⟩
  · rw [e2]; decide
  · rw [e9]; decide
  · rw [w3, t1]; exact decide_eq_false (by omega)
  · rw [w4, b1]
    have z : ∀ a b : Nat, b < 4 → decide (p = a ∧ k = b) = false := fun a b hb => decide_eq_false (fun w => by omega)
    rw [z _ _ (by decide), z _ _ (by decide), z _ _ (by decide), z _ _ (by decide), z _ _ (by decide), z _ _ (by decide), z _ _ (by decide), z _ _ (by decide)]
    rfl
  · rw [e1]; exact ⟨(by decide : (-9999 : Int) ≤ 0), (by decide : (0 : Int) ≤ 9999)⟩
theorem St.uli_th9 (S : St) (v : Nat → Int) : (S.u_li v).th = S.th := rfl
theorem St.uli_xs9 (S : St) (v : Nat → Int) : (S.u_li v).xs = S.xs := rfl
theorem St.uli_ys9 (S : St) (v : Nat → Int) : (S.u_li v).ys = S.ys := rfl
theorem St.uli_fx9 (S : St) (v : Nat → Int) : (S.u_li v).fx = S.fx := rfl
theorem St.uli_ap9 (S : St) (v : Nat → Int) : (S.u_li v).ap = S.ap := rfl
theorem St.uli_li9 (S : St) (v : Nat → Int) : (S.u_li v).li = v := rfl
theorem St.first_ok {f li : Nat → Int} (hf : ∀ i : Nat, i < 1600 → f i = -1) (hli : ∀ j : Nat, j < 40 → li j = (St.zero.st2 f).liR j) : ((St.zero.st2 f).u_li li).Gd ∧ ((St.zero.st2 f).u_li li).okR ∧ ((St.zero.st2 f).u_li li).Rg :=
  St.first_gen (St.st2_New hf) hli (St.st2_hs9 f li) (St.st2_hn9 f li) (St.st2_co9 f li) (St.st2_en9 f li) (St.st2_rd9 f li) (St.st2_wa9 f li) (St.st2_qu9 f li) (St.st2_qn9 f li) (St.st2_g9 f li) (fun k => St.st2_has f k) (fun u v => St.st2_bd f u v) (St.uli_li9 _ _) (St.uli_xs9 _ _) (St.uli_ys9 _ _) (St.uli_th9 _ _) (St.uli_fx9 _ _) (St.uli_ap9 _ _)
