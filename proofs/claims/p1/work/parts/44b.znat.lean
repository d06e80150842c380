/-! THE MACHINE FOR THE KERNEL: the reference's small methods as leaves of their own. By hand. -/
theorem r_leftAtG {w : pW} {o c n : Nat} {f : Nat → Int32} {fs : List Value} (ho : w[o]? = some (.inr (9, fs))) (hf : fs[3]? = some (.ref c)) (hc : w[c]? = some (.inl (0, n, .inl f))) (hn : 1600 ≤ n) (hn2 : n < 2 ^ 31) {p q : Nat} (hp : p < 40) (hq : q < 40) : pRun 212 [.ref o, .int (nI p), .int (nI q)] w (some (.int (f (40 * p + q)))) w := by
  refine pr_run rfl ?_
  refine pr_go rfl (s_aload_n rfl) ?_
  refine pr_go rfl (s_getf ho hf) ?_
  refine pr_go rfl s_bipush ?_
  refine pr_go rfl (s_iload_n rfl) ?_
  refine pr_go rfl (s_imulN (c := 40 * p) rfl) ?_
  refine pr_go rfl (s_iload_n rfl) ?_
  refine pr_go rfl (s_iaddN (c := (40 * p) + q) rfl) ?_
  refine pr_go rfl (s_ialdN (v := f (((40 * p) + q))) hc (by omega) hn2 rfl rfl) ?_
  exact pr_retE (r' := some (.int (f (((40 * p) + q))))) rfl s_retI (rfl)
theorem r_isEdgeNowG {w : pW} {o c n : Nat} {f : Nat → Int32} {fs : List Value} (ho : w[o]? = some (.inr (9, fs))) (hf : fs[3]? = some (.ref c)) (hc : w[c]? = some (.inl (0, n, .inl f))) (hn : 1600 ≤ n) (hn2 : n < 2 ^ 31) {p q : Nat} (hp : p < 40) (hq : q < 40) : pRun 213 [.ref o, .int (nI p), .int (nI q)] w (some (.int (bI (edgF f p q)))) w := by
  refine pr_run rfl ?_
  refine pr_go rfl (s_aload_n rfl) ?_
  refine pr_go rfl (s_iload_n rfl) ?_
  refine pr_go rfl (s_iload_n rfl) ?_
  refine pr_call rfl (s_invV rfl ho rfl rfl) (r_leftAtG ho hf hc hn hn2 (p := p) (q := q) hp hq) ?_
  refine pr_go rfl s_iconst ?_
  by_cases h7 : f (40 * p + q) = nI 4294967295
  · skip
    refine pr_go rfl (s_icmp_ne_f (fun e => e h7)) ?_
    refine pr_go rfl (s_aload_n rfl) ?_
    refine pr_go rfl (s_iload_n rfl) ?_
    refine pr_go rfl (s_iload_n rfl) ?_
    refine pr_call rfl (s_invV rfl ho rfl rfl) (r_leftAtG ho hf hc hn hn2 (p := q) (q := p) hq hp) ?_
    refine pr_go rfl s_iconst ?_
    by_cases h17 : f (40 * q + p) = nI 4294967295
    · skip
      refine pr_go rfl (s_icmp_eq_t h17) ?_
      refine pr_go rfl s_iconst ?_
      exact pr_retE (r' := some (.int (nI 0))) rfl s_ret0 (by unfold edgF bI; simp only [decide_eq_true h7, decide_eq_true h17]; rfl)
    · skip
      refine pr_go rfl (s_icmp_eq_f h17) ?_
      refine pr_go rfl s_iconst ?_
      refine pr_go rfl s_goto ?_
      exact pr_retE (r' := some (.int (nI 1))) rfl s_ret1 (by unfold edgF bI; simp only [decide_eq_true h7, decide_eq_false h17]; rfl)
  · skip
    refine pr_go rfl (s_icmp_ne_t h7) ?_
    refine pr_go rfl s_iconst ?_
    refine pr_go rfl s_goto ?_
    exact pr_retE (r' := some (.int (nI 1))) rfl s_ret1 (by unfold edgF bI; simp only [decide_eq_false h7]; rfl)
-- a method of the reference with one number, with two: g answers where the numbers are under 40, else the method is run
noncomputable def zRf (x : zV) (f : Nat → zR) : zR := Sum.rec (motive := fun _ => zR) (fun _ => none) (fun z => Sum.rec (motive := fun _ => zR) (fun a => f a) (fun _ => none) z) x
noncomputable def zN1 (j mx : Nat) (g : Nat → Nat → zW → (zV → zR) → zR) (kn : zKn) (E : zE) (L S0 : List zV) (W : zW) : zR := List.rec (motive := fun _ => zR) none (fun k S _ => List.rec (motive := fun _ => zR) none (fun x S _ => Sum.rec (motive := fun _ => zR) (fun k => zIf (Nat.ble k 39) (zq_calli j 1 9 mx kn E L S0 W) (zRf x (fun o => zCt S (g o k W (fun v => kn L (v :: S) W))))) (fun _ => zq_calli j 1 9 mx kn E L S0 W) k) S) S0
noncomputable def zN2 (j mx : Nat) (g : Nat → Nat → Nat → zW → (zV → zR) → zR) (kn : zKn) (E : zE) (L S0 : List zV) (W : zW) : zR := List.rec (motive := fun _ => zR) none (fun q S _ => List.rec (motive := fun _ => zR) none (fun p S _ => List.rec (motive := fun _ => zR) none (fun x S _ => Sum.rec (motive := fun _ => zR) (fun q => Sum.rec (motive := fun _ => zR) (fun p => zIf (Nat.ble p 39) (zq_calli j 2 9 mx kn E L S0 W) (zIf (Nat.ble q 39) (zq_calli j 2 9 mx kn E L S0 W) (zRf x (fun o => zCt S (g o p q W (fun v => kn L (v :: S) W)))))) (fun _ => zq_calli j 2 9 mx kn E L S0 W) p) (fun _ => zq_calli j 2 9 mx kn E L S0 W) q) S) S) S0
def zG1ok (j : Nat) (g : Nat → Nat → zW → (zV → zR) → zR) : Prop := ∀ o k W (f : zV → zR) v, k < 40 → g o k W f = some v → ∃ u, f u = some v ∧ ∀ ρ w, yW ρ W w → ∃ y fs, w[o]? = some (.inr (9, fs)) ∧ pRun j [.ref o, .int (nI k)] w (some y) w ∧ yV ρ u y
def zG2ok (j : Nat) (g : Nat → Nat → Nat → zW → (zV → zR) → zR) : Prop := ∀ o p q W (f : zV → zR) v, p < 40 → q < 40 → g o p q W f = some v → ∃ u, f u = some v ∧ ∀ ρ w, yW ρ W w → ∃ y fs, w[o]? = some (.inr (9, fs)) ∧ pRun j [.ref o, .int (nI p), .int (nI q)] w (some y) w ∧ yV ρ u y
section NAT
variable {ρ : Nat → Int} {T : List Nat} {nx : Nat} {K : Prop}
theorem zs_N1 {j mx : Nat} {g : Nat → Nat → zW → (zV → zR) → zR} (hg : zG1ok j g) (hK : K) (hj : j < 357) (hm : 2 ≤ mx) (hm2 : mx < 1000) : zS ρ T nx K (fun _ st w => pCallI j 1 9 mx st w) (zN1 j mx g) := by
  intro kn E L S0 W v h
  obtain ⟨k, S1, rfl, h⟩ := zL0 h
  obtain ⟨x, S, rfl, h⟩ := zL0 h
  rcases zS2 h with ⟨k, rfl, h⟩ | ⟨z, rfl, h⟩
  · rcases zBi h with ⟨_, h⟩ | ⟨hk, h⟩
    · exact zs_calli hK hj hm2 _ _ _ _ _ _ h
    · have hk := pBle hk
      obtain ⟨o, rfl, h⟩ := zR0 h
      obtain ⟨h, hc8⟩ := zCt_ok h
      obtain ⟨u, h, H⟩ := hg _ _ _ _ _ (Nat.lt_succ_of_le hk) h
      refine .inr (.inr (.inr (.inr ⟨hK, _, _, h, fun lv st w hL hT hW => ?_⟩)))
      obtain ⟨c1, st, rfl, ⟨_, rfl⟩, hq⟩ := yT_c hT
      obtain ⟨c2, st, rfl, ha, hq2⟩ := yT_c hq
      have ha : c2 = .ref o := ha
      subst ha
      obtain ⟨y, fs, ho, hr, hu⟩ := H ρ w hW
      exact ⟨j, [.ref o, .int (Int32.ofNat k)], st, some y, w, ps_callI (as := [.int (Int32.ofNat k)]) rfl ho (hc8 ρ st hq2) (Nat.ble_eq_true_of_le (show 1 + (1 + 0) ≤ mx from hm)), hr, ⟨hu, hq2⟩, hW⟩
  · exact zs_calli hK hj hm2 _ _ _ _ _ _ h
theorem zs_N2 {j mx : Nat} {g : Nat → Nat → Nat → zW → (zV → zR) → zR} (hg : zG2ok j g) (hK : K) (hj : j < 357) (hm : 3 ≤ mx) (hm2 : mx < 1000) : zS ρ T nx K (fun _ st w => pCallI j 2 9 mx st w) (zN2 j mx g) := by
  intro kn E L S0 W v h
  obtain ⟨q, S1, rfl, h⟩ := zL0 h
  obtain ⟨p, S2, rfl, h⟩ := zL0 h
  obtain ⟨x, S, rfl, h⟩ := zL0 h
  rcases zS2 h with ⟨q, rfl, h⟩ | ⟨z, rfl, h⟩
  · rcases zS2 h with ⟨p, rfl, h⟩ | ⟨z, rfl, h⟩
    · rcases zBi h with ⟨_, h⟩ | ⟨hp, h⟩
      · exact zs_calli hK hj hm2 _ _ _ _ _ _ h
      · rcases zBi h with ⟨_, h⟩ | ⟨hq, h⟩
        · exact zs_calli hK hj hm2 _ _ _ _ _ _ h
        · have hp := pBle hp
          have hq := pBle hq
          obtain ⟨o, rfl, h⟩ := zR0 h
          obtain ⟨h, hc8⟩ := zCt_ok h
          obtain ⟨u, h, H⟩ := hg _ _ _ _ _ _ (Nat.lt_succ_of_le hp) (Nat.lt_succ_of_le hq) h
          refine .inr (.inr (.inr (.inr ⟨hK, _, _, h, fun lv st w hL hT hW => ?_⟩)))
          obtain ⟨c1, st, rfl, ⟨_, rfl⟩, hq1⟩ := yT_c hT
          obtain ⟨c3, st, rfl, ⟨_, rfl⟩, hq3⟩ := yT_c hq1
          obtain ⟨c2, st, rfl, ha, hq2⟩ := yT_c hq3
          have ha : c2 = .ref o := ha
          subst ha
          obtain ⟨y, fs, ho, hr, hu⟩ := H ρ w hW
          exact ⟨j, [.ref o, .int (Int32.ofNat p), .int (Int32.ofNat q)], st, some y, w, ps_callI (as := [.int (Int32.ofNat p), .int (Int32.ofNat q)]) rfl ho (hc8 ρ st hq2) (Nat.ble_eq_true_of_le (show 1 + (1 + (1 + 0)) ≤ mx from hm)), hr, ⟨hu, hq2⟩, hW⟩
    · exact zs_calli hK hj hm2 _ _ _ _ _ _ h
  · exact zs_calli hK hj hm2 _ _ _ _ _ _ h
end NAT
-- the reference's cells
noncomputable def zAr (c m : Nat) (W : zW) (f : Lean.RArray zV → zR) : zR := Sum.rec (motive := fun _ => zR) (fun o => Bool.rec (motive := fun _ => zR) none (Bool.rec (motive := fun _ => zR) none (f o.2.2) (Nat.ble m o.2.1)) (Nat.beq o.1 0)) (fun _ => none) (W.2.2.get c)
noncomputable def zOb (o k m : Nat) (W : zW) (f : Lean.RArray zV → zR) : zR := Sum.rec (motive := fun _ => zR) (fun _ => none) (fun ob => Bool.rec (motive := fun _ => zR) none (zGetK k ob.2 (fun x => zRf x (fun c => zAr c m W f))) (Nat.beq ob.1 9)) (W.2.2.get o)
theorem zOb_ok {o k m : Nat} {W : zW} {f : Lean.RArray zV → zR} {v : Option zV × zW} (h : zOb o k m W f = some v) : ∃ t, f t = some v ∧ ∀ ρ w, yW ρ W w → ∃ fs c n g, w[o]? = some (.inr (9, fs)) ∧ fs[k]? = some (.ref c) ∧ w[c]? = some (.inl (0, n, .inl g)) ∧ m ≤ n ∧ n < 2 ^ 31 ∧ ∀ j, j < n → yV ρ (t.get j) (.int (g j)) := by
  obtain ⟨fs, ho, h⟩ := zC0 h
  obtain ⟨x, hk, h⟩ := zGetK_ok h
  obtain ⟨c, rfl, h⟩ := zR0 h
  rcases zS2 h with ⟨⟨kd, n, t⟩, hc, h⟩ | ⟨_, _, h⟩
  · obtain ⟨h1, h⟩ := zBt h
    obtain ⟨h2, h⟩ := zBt h
    have h1 : kd = 0 := pBeq h1
    have hmn : m ≤ n := pBle h2
    subst h1
    refine ⟨t, h, fun ρ w hW => ?_⟩
    obtain ⟨gs, hw, hg⟩ := yW_o hW ho
    obtain ⟨y, hy, hv⟩ := yT_get hg hk
    have hv : y = .ref c := hv
    subst hv
    obtain ⟨hn, g, hw2, hg2⟩ := yW_i hW hc (by decide) (by decide)
    exact ⟨gs, c, n, g, hw, hy, hw2, hmn, by omega, hg2⟩
  · cases h
theorem fs_hd {fs : List Value} {c : Nat} (h : fs[0]? = some (.ref c)) : ∃ gs, fs = .ref c :: gs := by
  cases fs with
  | nil => cases h
  | cons a gs =>
    cases h
    exact ⟨gs, rfl⟩
theorem yV_b {ρ : Nat → Int} (b : Bool) : yV ρ (.inl (bif b then 1 else 0)) (.int (bI b)) := by
  cases b
  · exact ⟨by decide, rfl⟩
  · exact ⟨by decide, rfl⟩
noncomputable def zg_191 (o k : Nat) (W : zW) (f : zV → zR) : zR := zOb o 0 1780 W (fun t => Sum.rec (motive := fun _ => zR) (fun m => f (.inl (Bool.rec (motive := fun _ => Nat) 0 1 (Nat.beq m 1)))) (fun _ => none) (t.get (Nat.add (Nat.mul 4 k) 3)))
noncomputable def zg_192 (o k : Nat) (W : zW) (f : zV → zR) : zR := zOb o 0 1780 W (fun t => zFc (t.get (Nat.add (Nat.mul 4 k) 4)) f)
noncomputable def zg_193 (o k : Nat) (W : zW) (f : zV → zR) : zR := zOb o 0 1780 W (fun t => zFc (t.get (Nat.add (Nat.mul 4 k) 5)) f)
noncomputable def zg_196 (o p q : Nat) (W : zW) (f : zV → zR) : zR := zOb o 0 1780 W (fun t => zFc (t.get (Nat.add (Nat.add 163 (Nat.mul 40 p)) q)) f)
noncomputable def zg_212 (o p q : Nat) (W : zW) (f : zV → zR) : zR := zOb o 3 1600 W (fun t => zFc (t.get (Nat.add (Nat.mul 40 p) q)) f)
noncomputable def zg_217 (o p q : Nat) (W : zW) (f : zV → zR) : zR := zOb o 0 1780 W (fun t => Sum.rec (motive := fun _ => zR) (fun m => f (.inl (Bool.rec (motive := fun _ => Nat) 0 1 (Nat.beq m 2)))) (fun _ => none) (t.get (Nat.add (Nat.add 163 (Nat.mul 40 p)) q)))
noncomputable def zg_213 (o p q : Nat) (W : zW) (f : zV → zR) : zR := zOb o 3 1600 W (fun t => Sum.rec (motive := fun _ => zR) (fun m => Bool.rec (motive := fun _ => zR) (f (.inl 1)) (Sum.rec (motive := fun _ => zR) (fun m => f (.inl (Bool.rec (motive := fun _ => Nat) 1 0 (Nat.beq m 4294967295)))) (fun _ => none) (t.get (Nat.add (Nat.mul 40 q) p))) (Nat.beq m 4294967295)) (fun _ => none) (t.get (Nat.add (Nat.mul 40 p) q)))
theorem n32_eq {m n : Nat} (hm : m < 4294967296) (hn : n < 4294967296) : decide (Int32.ofNat m = nI n) = Nat.beq m n := by
  cases h : Nat.beq m n with
  | true =>
    rw [pBeq h]
    exact decide_eq_true rfl
  | false =>
    apply decide_eq_false
    intro e
    have e2 := congrArg Int32.toInt e
    have e3 : (Int32.ofNat m).toInt = (Int32.ofNat n).toInt := e2
    rw [i32t hm, i32t hn, zZ_eq, zZ_eq] at e3
    have := nbeqf h
    split at e3 <;> split at e3 <;> omega
theorem zg_191_ok : zG1ok 191 zg_191 := by
  intro o k W f v hk h
  obtain ⟨t, h, H⟩ := zOb_ok h
  obtain ⟨m, hm, h⟩ := zI0 h
  refine ⟨_, h, fun ρ w hW => ?_⟩
  obtain ⟨fs, c, n, g, ho, hf, hc, h1, h2, hg⟩ := H ρ w hW
  obtain ⟨gs, rfl⟩ := fs_hd hf
  refine ⟨_, _, ho, r_isPoint ho hc h1 h2 hk, ?_⟩
  have hv := hg (4 * k + 3) (by omega)
  rw [show t.get (4 * k + 3) = .inl m from hm] at hv
  obtain ⟨hl, e⟩ := hv
  injection e with e
  unfold isP
  rw [e, n32_eq hl (by decide)]
  cases Nat.beq m 1
  · exact ⟨by decide, rfl⟩
  · exact ⟨by decide, rfl⟩
theorem zg_192_ok : zG1ok 192 zg_192 := by
  intro o k W f v hk h
  obtain ⟨t, h, H⟩ := zOb_ok h
  have h := zFc_ok h
  refine ⟨_, h, fun ρ w hW => ?_⟩
  obtain ⟨fs, c, n, g, ho, hf, hc, h1, h2, hg⟩ := H ρ w hW
  obtain ⟨gs, rfl⟩ := fs_hd hf
  exact ⟨_, _, ho, r_xOf ho hc h1 h2 hk, hg (4 * k + 4) (by omega)⟩
theorem zg_193_ok : zG1ok 193 zg_193 := by
  intro o k W f v hk h
  obtain ⟨t, h, H⟩ := zOb_ok h
  have h := zFc_ok h
  refine ⟨_, h, fun ρ w hW => ?_⟩
  obtain ⟨fs, c, n, g, ho, hf, hc, h1, h2, hg⟩ := H ρ w hW
  obtain ⟨gs, rfl⟩ := fs_hd hf
  exact ⟨_, _, ho, r_yOf ho hc h1 h2 hk, hg (4 * k + 5) (by omega)⟩
theorem zg_196_ok : zG2ok 196 zg_196 := by
  intro o p q W f v hp hq h
  obtain ⟨t, h, H⟩ := zOb_ok h
  have h := zFc_ok h
  refine ⟨_, h, fun ρ w hW => ?_⟩
  obtain ⟨fs, c, n, g, ho, hf, hc, h1, h2, hg⟩ := H ρ w hW
  obtain ⟨gs, rfl⟩ := fs_hd hf
  exact ⟨_, _, ho, r_fixedAt ho hc h1 h2 hp hq, hg (163 + 40 * p + q) (by omega)⟩
theorem zg_217_ok : zG2ok 217 zg_217 := by
  intro o p q W f v hp hq h
  obtain ⟨t, h, H⟩ := zOb_ok h
  obtain ⟨m, hm, h⟩ := zI0 h
  refine ⟨_, h, fun ρ w hW => ?_⟩
  obtain ⟨fs, c, n, g, ho, hf, hc, h1, h2, hg⟩ := H ρ w hW
  obtain ⟨gs, rfl⟩ := fs_hd hf
  refine ⟨_, _, ho, r_isBorder ho hc h1 h2 hp hq, ?_⟩
  have hv := hg (163 + 40 * p + q) (by omega)
  rw [show t.get (163 + 40 * p + q) = .inl m from hm] at hv
  obtain ⟨hl, e⟩ := hv
  injection e with e
  have e2 : fxF g p q = Int32.ofNat m := e
  rw [e2, n32_eq hl (by decide)]
  cases Nat.beq m 2
  · exact ⟨by decide, rfl⟩
  · exact ⟨by decide, rfl⟩
theorem zg_212_ok : zG2ok 212 zg_212 := by
  intro o p q W f v hp hq h
  obtain ⟨t, h, H⟩ := zOb_ok h
  have h := zFc_ok h
  refine ⟨_, h, fun ρ w hW => ?_⟩
  obtain ⟨fs, c, n, g, ho, hf, hc, h1, h2, hg⟩ := H ρ w hW
  exact ⟨_, _, ho, r_leftAtG ho hf hc h1 h2 hp hq, hg (40 * p + q) (by omega)⟩
theorem zg_213_ok : zG2ok 213 zg_213 := by
  intro o p q W f v hp hq h
  obtain ⟨t, h, H⟩ := zOb_ok h
  obtain ⟨m, hm, h⟩ := zI0 h
  rcases zB h with ⟨hb, h⟩ | ⟨hb, h⟩
  · refine ⟨_, h, fun ρ w hW => ?_⟩
    obtain ⟨fs, c, n, g, ho, hf, hc, h1, h2, hg⟩ := H ρ w hW
    refine ⟨_, _, ho, r_isEdgeNowG ho hf hc h1 h2 hp hq, ?_⟩
    have hv := hg (40 * p + q) (by omega)
    rw [show t.get (40 * p + q) = .inl m from hm] at hv
    obtain ⟨hl, e⟩ := hv
    injection e with e
    unfold edgF
    rw [e, n32_eq hl (by decide), hb]
    exact ⟨by decide, rfl⟩
  · obtain ⟨m2, hm2, h⟩ := zI0 h
    refine ⟨_, h, fun ρ w hW => ?_⟩
    obtain ⟨fs, c, n, g, ho, hf, hc, h1, h2, hg⟩ := H ρ w hW
    refine ⟨_, _, ho, r_isEdgeNowG ho hf hc h1 h2 hp hq, ?_⟩
    have hv := hg (40 * p + q) (by omega)
    rw [show t.get (40 * p + q) = .inl m from hm] at hv
    obtain ⟨hl, e⟩ := hv
    injection e with e
    have hv2 := hg (40 * q + p) (by omega)
    rw [show t.get (40 * q + p) = .inl m2 from hm2] at hv2
    obtain ⟨hl2, e2⟩ := hv2
    injection e2 with e2
    unfold edgF
    rw [e, e2, n32_eq hl (by decide), n32_eq hl2 (by decide), hb]
    cases Nat.beq m2 4294967295
    · exact ⟨by decide, rfl⟩
    · exact ⟨by decide, rfl⟩
-- isUncut
noncomputable def zSubV (x y : zV) : Option zV := Sum.rec (motive := fun _ => Option zV) (fun m => Sum.rec (motive := fun _ => Option zV) (fun n => some (.inl (Nat.mod (Nat.add m (Nat.sub 4294967296 n)) 4294967296))) (fun _ => zII zSub x y) y) (fun _ => zII zSub x y) x
noncomputable def zMulV (x y : zV) : Option zV := Sum.rec (motive := fun _ => Option zV) (fun m => Sum.rec (motive := fun _ => Option zV) (fun n => some (.inl (Nat.mod (Nat.mul m n) 4294967296))) (fun _ => zII zMul x y) y) (fun _ => zII zMul x y) x
theorem zSubV_ok {ρ : Nat → Int} {x y v : zV} {i j : Int32} (h : zSubV x y = some v) (hx : yV ρ x (.int i)) (hy : yV ρ y (.int j)) : yV ρ v (.int (i - j)) := by
  have slow : zII zSub x y = some v → yV ρ v (.int (i - j)) := by
    intro h
    obtain ⟨a, b, ea, eb, hv⟩ := zII_ok (g := fun x y => x - y) (fun p q => by rw [evP_sub, Int32.ofInt_sub]) h hx hy
    injection ea with ea
    injection eb with eb
    subst ea
    subst eb
    exact hv
  rcases x with m | z
  · rcases y with n | z
    · cases h
      obtain ⟨hm, e1⟩ := hx
      obtain ⟨hn, e2⟩ := hy
      injection e1 with e1
      injection e2 with e2
      rw [e1, e2, n32_sub hn]
      exact ⟨Nat.mod_lt _ (by decide), rfl⟩
    · exact slow h
  · exact slow h
theorem zMulV_ok {ρ : Nat → Int} {x y v : zV} {i j : Int32} (h : zMulV x y = some v) (hx : yV ρ x (.int i)) (hy : yV ρ y (.int j)) : yV ρ v (.int (i * j)) := by
  have slow : zII zMul x y = some v → yV ρ v (.int (i * j)) := by
    intro h
    obtain ⟨a, b, ea, eb, hv⟩ := zII_ok (g := fun x y => x * y) (fun p q => by rw [evP_mul, Int32.ofInt_mul]) h hx hy
    injection ea with ea
    injection eb with eb
    subst ea
    subst eb
    exact hv
  rcases x with m | z
  · rcases y with n | z
    · cases h
      obtain ⟨hm, e1⟩ := hx
      obtain ⟨hn, e2⟩ := hy
      injection e1 with e1
      injection e2 with e2
      rw [e1, e2, n32_mul]
      exact ⟨Nat.mod_lt _ (by decide), rfl⟩
    · exact slow h
  · exact slow h
def zO2 (x y : Option zV) (f : zV → zV → Option zV) : Option zV := match x, y with
  | some a, some b => f a b
  | _, _ => none
theorem zO2_ok {x y : Option zV} {f : zV → zV → Option zV} {v : zV} (h : zO2 x y f = some v) : ∃ a b, x = some a ∧ y = some b ∧ f a b = some v := by
  cases x with
  | none => cases h
  | some a => cases y with
    | none => cases h
    | some b => exact ⟨a, b, rfl, rfl, h⟩
noncomputable def zTu (t : Lean.RArray zV) (p q r : Nat) : Option zV := zO2 (zO2 (zSubV (t.get (Nat.add (Nat.mul 4 q) 4)) (t.get (Nat.add (Nat.mul 4 p) 4))) (zSubV (t.get (Nat.add (Nat.mul 4 r) 5)) (t.get (Nat.add (Nat.mul 4 p) 5))) zMulV) (zO2 (zSubV (t.get (Nat.add (Nat.mul 4 q) 5)) (t.get (Nat.add (Nat.mul 4 p) 5))) (zSubV (t.get (Nat.add (Nat.mul 4 r) 4)) (t.get (Nat.add (Nat.mul 4 p) 4))) zMulV) zSubV
/-- a tree that holds the row g, as far as 1780 -/
def yA (ρ : Nat → Int) (t : Lean.RArray zV) (g : Nat → Int32) : Prop := ∀ j, j < 1780 → yV ρ (t.get j) (.int (g j))
theorem zTu_ok {ρ : Nat → Int} {t : Lean.RArray zV} {g : Nat → Int32} (hg : yA ρ t g) {p q r : Nat} {v : zV} (hp : p < 40) (hq : q < 40) (hr : r < 40) (h : zTu t p q r = some v) : yV ρ v (.int (turnF g p q r)) := by
  obtain ⟨a, b, ha, hb, h⟩ := zO2_ok h
  obtain ⟨a1, a2, h1, h2, ha⟩ := zO2_ok ha
  obtain ⟨b1, b2, h3, h4, hb⟩ := zO2_ok hb
  have g1 := zSubV_ok h1 (hg (4 * q + 4) (by omega)) (hg (4 * p + 4) (by omega))
  have g2 := zSubV_ok h2 (hg (4 * r + 5) (by omega)) (hg (4 * p + 5) (by omega))
  have g3 := zSubV_ok h3 (hg (4 * q + 5) (by omega)) (hg (4 * p + 5) (by omega))
  have g4 := zSubV_ok h4 (hg (4 * r + 4) (by omega)) (hg (4 * p + 4) (by omega))
  exact zSubV_ok h (zMulV_ok ha g1 g2) (zMulV_ok hb g3 g4)
def zNeg1 (n : Nat) : zSgn := bif Nat.beq n 0 then (false, true, false) else bif Nat.ble 2147483648 n then (true, false, false) else (false, false, true)
noncomputable def zTm2 (D : zD) (o : Option zV) : zSgn := Option.rec (motive := fun _ => zSgn) zU (fun v => Sum.rec (motive := fun _ => zSgn) (fun n => zNeg1 n) (fun _ => zCmp D v (.inl 0)) v) o
theorem zTm2_ok {ρ : Nat → Int} {D : zD} (hD : okD ρ D) {o : Option zV} {i : Int32} (h : ∀ v, o = some v → yV ρ v (.int i)) : sgOK (zTm2 D o) i.toInt := by
  cases o with
  | none => exact ⟨fun _ => rfl, fun _ => rfl, fun _ => rfl⟩
  | some v =>
    have hv := h v rfl
    rcases v with n | z
    · obtain ⟨hn, e⟩ := hv
      injection e with e
      rw [i32s hn e, zZ_eq]
      show sgOK (zNeg1 n) _
      unfold zNeg1
      cases h1 : Nat.beq n 0 with
      | true =>
        have h1 := pBeq h1
        subst h1
        exact ⟨fun h => absurd h (by decide), fun _ => rfl, fun h => absurd h (by decide)⟩
      | false =>
        have h1 := nbeqf h1
        cases h2 : Nat.ble 2147483648 n with
        | true =>
          have h2 := pBle h2
          rw [if_pos h2]
          exact ⟨fun _ => rfl, fun h => absurd h (by omega), fun h => absurd h (by omega)⟩
        | false =>
          have h2 := nblef h2
          rw [if_neg (by omega)]
          exact ⟨fun h => absurd h (by omega), fun h => absurd h (by omega), fun _ => rfl⟩
    · have hs := zCmp_ok hD hv (show yV ρ (.inl 0) (.int 0) from ⟨by decide, rfl⟩)
      have e : i.toInt - (0 : Int32).toInt = i.toInt := by
        rw [i32_0]
        omega
      rw [e] at hs
      exact hs
/-- strictly on both sides of 0: no, yes, not known -/
def zApm (a b : zSgn) : Option Bool := bif (!a.2.2 || !b.1) && (!a.1 || !b.2.2) then some false else bif ((!a.1 && !a.2.1) && (!b.2.1 && !b.2.2)) || ((!a.2.1 && !a.2.2) && (!b.1 && !b.2.1)) then some true else none
theorem apB_z {v w : Int32} : apB v w = decide ((0 < v.toInt ∧ w.toInt < 0) ∨ (v.toInt < 0 ∧ 0 < w.toInt)) := by
  have e0 : (0 : Int32).toInt = 0 := rfl
  unfold apB
  rw [Bool.eq_iff_iff]
  simp only [Bool.or_eq_true, Bool.and_eq_true, Bool.not_eq_true', decide_eq_true_eq, decide_eq_false_iff_not, Int32.le_iff_toInt_le, Int32.lt_iff_toInt_lt, e0]
  omega
theorem zApm_ok {a b : zSgn} {v w : Int32} {r : Bool} (ha : sgOK a v.toInt) (hb : sgOK b w.toInt) (h : zApm a b = some r) : apB v w = r := by
  rw [apB_z]
  obtain ⟨a1, a2, a3⟩ := a
  obtain ⟨b1, b2, b3⟩ := b
  obtain ⟨p1, p2, p3⟩ := ha
  obtain ⟨q1, q2, q3⟩ := hb
  have p1 : v.toInt < 0 → a1 = true := p1
  have p2 : v.toInt = 0 → a2 = true := p2
  have p3 : 0 < v.toInt → a3 = true := p3
  have q1 : w.toInt < 0 → b1 = true := q1
  have q2 : w.toInt = 0 → b2 = true := q2
  have q3 : 0 < w.toInt → b3 = true := q3
  unfold zApm at h
  rcases pCond h with ⟨hc, h⟩ | ⟨_, h⟩
  · cases h
    apply decide_eq_false
    have hc : ((!a3 || !b1) && (!a1 || !b3)) = true := hc
    rintro (⟨g1, g2⟩ | ⟨g1, g2⟩)
    · rw [p3 g1, q1 g2] at hc
      cases hc
    · rw [p1 g1, q3 g2] at hc
      simp at hc
  · rcases pCond h with ⟨hc, h⟩ | ⟨_, h⟩
    · cases h
      apply decide_eq_true
      have hc : (((!a1 && !a2) && (!b2 && !b3)) || ((!a2 && !a3) && (!b1 && !b2))) = true := hc
      rw [Bool.or_eq_true, Bool.and_eq_true, Bool.and_eq_true, Bool.and_eq_true, Bool.and_eq_true, Bool.and_eq_true, Bool.and_eq_true] at hc
      simp only [Bool.not_eq_true'] at hc
      rcases hc with ⟨⟨c1, c2⟩, c3, c4⟩ | ⟨⟨c1, c2⟩, c3, c4⟩
      · have e1 : ¬ v.toInt < 0 := fun g => by rw [p1 g] at c1; cases c1
        have e2 : ¬ v.toInt = 0 := fun g => by rw [p2 g] at c2; cases c2
        have e3 : ¬ w.toInt = 0 := fun g => by rw [q2 g] at c3; cases c3
        have e4 : ¬ 0 < w.toInt := fun g => by rw [q3 g] at c4; cases c4
        omega
      · have e1 : ¬ v.toInt = 0 := fun g => by rw [p2 g] at c1; cases c1
        have e2 : ¬ 0 < v.toInt := fun g => by rw [p3 g] at c2; cases c2
        have e3 : ¬ w.toInt < 0 := fun g => by rw [q1 g] at c3; cases c3
        have e4 : ¬ w.toInt = 0 := fun g => by rw [q2 g] at c4; cases c4
        omega
    · cases h
noncomputable def zCr (D : zD) (t : Lean.RArray zV) (p q r s : Nat) : Option Bool := match zApm (zTm2 D (zTu t p q r)) (zTm2 D (zTu t p q s)) with
  | some false => some false
  | some true => zApm (zTm2 D (zTu t r s p)) (zTm2 D (zTu t r s q))
  | none => (match zApm (zTm2 D (zTu t r s p)) (zTm2 D (zTu t r s q)) with
    | some false => some false
    | _ => none)
theorem zCr_ok {ρ : Nat → Int} {D : zD} (hD : okD ρ D) {t : Lean.RArray zV} {g : Nat → Int32} (hg : yA ρ t g) {p q r s : Nat} {b : Bool} (hp : p < 40) (hq : q < 40) (hr : r < 40) (hs : s < 40) (h : zCr D t p q r s = some b) : crossF g p q r s = b := by
  have h1 := zTm2_ok hD (o := zTu t p q r) (fun v e => zTu_ok hg hp hq hr e)
  have h2 := zTm2_ok hD (o := zTu t p q s) (fun v e => zTu_ok hg hp hq hs e)
  have h3 := zTm2_ok hD (o := zTu t r s p) (fun v e => zTu_ok hg hr hs hp e)
  have h4 := zTm2_ok hD (o := zTu t r s q) (fun v e => zTu_ok hg hr hs hq e)
  unfold zCr at h
  unfold crossF
  split at h
  · rename_i e
    cases h
    rw [zApm_ok h1 h2 e]
    rfl
  · rename_i e
    rw [zApm_ok h1 h2 e, zApm_ok h3 h4 h]
    rfl
  · split at h
    · rename_i e
      cases h
      rw [zApm_ok h3 h4 e, Bool.and_false]
    · cases h
/-- whether lo, lo + 1 .. hi - 1 hold 0 all -/
noncomputable def zZr (t : Lean.RArray zV) : Nat → Nat → Bool := Lean.RArray.rec (motive := fun _ => Nat → Nat → Bool) (fun v _ _ => Sum.rec (motive := fun _ => Bool) (fun n => Nat.beq n 0) (fun _ => false) v) (fun p _ _ ihl ihr lo hi => Bool.rec (motive := fun _ => Bool) (Bool.rec (motive := fun _ => Bool) (ihl lo p && ihr p hi) (ihr lo hi) (Nat.ble p lo)) (ihl lo hi) (Nat.ble hi p)) t
theorem zZr_ok {t : Lean.RArray zV} : ∀ {lo hi : Nat}, zZr t lo hi = true → ∀ j, lo ≤ j → j < hi → zg t j = .inl 0 := by
  induction t with
  | leaf v =>
    intro lo hi h j _ _
    rcases v with n | z
    · have h : Nat.beq n 0 = true := h
      rw [zg_leaf, pBeq h]
    · cases h
  | branch p l r ihl ihr =>
    intro lo hi h j h1 h2
    rw [zg_br]
    have h : Bool.rec (motive := fun _ => Bool) (Bool.rec (motive := fun _ => Bool) (zZr l lo p && zZr r p hi) (zZr r lo hi) (Nat.ble p lo)) (zZr l lo hi) (Nat.ble hi p) = true := h
    cases e1 : Nat.ble hi p with
    | true =>
      rw [e1] at h
      have e1 := pBle e1
      rw [if_neg (by omega)]
      exact ihl h j h1 h2
    | false =>
      rw [e1] at h
      have e1 := nblef e1
      cases e2 : Nat.ble p lo with
      | true =>
        rw [e2] at h
        have e2 := pBle e2
        rw [if_pos (by omega)]
        exact ihr h j h1 h2
      | false =>
        rw [e2] at h
        have e2 := nblef e2
        have h : (zZr l lo p && zZr r p hi) = true := h
        rw [Bool.and_eq_true] at h
        by_cases e : p ≤ j
        · rw [if_pos e]
          exact ihr h.2 j e h2
        · rw [if_neg e]
          exact ihl h.1 j h1 (by omega)
noncomputable def zUs (D : zD) (t : Lean.RArray zV) (p q r s : Nat) : Option Bool := Nat.rec (motive := fun _ => Option Bool) (some true) (fun s ih => Sum.rec (motive := fun _ => Option Bool) (fun m => Bool.rec (motive := fun _ => Option Bool) (Option.rec (motive := fun _ => Option Bool) none (fun b => Bool.rec (motive := fun _ => Option Bool) ih (some false) b) (zCr D t p q r s)) ih (Nat.beq m 0)) (fun _ => none) (t.get (Nat.add (Nat.add 163 (Nat.mul 40 r)) s))) s
noncomputable def zUr (D : zD) (t : Lean.RArray zV) (p q r : Nat) : Option Bool := Nat.rec (motive := fun _ => Option Bool) (some true) (fun r ih => Bool.rec (motive := fun _ => Option Bool) (Option.rec (motive := fun _ => Option Bool) none (fun b => Bool.rec (motive := fun _ => Option Bool) (some false) ih b) (zUs D t p q r r)) ih (zZr t (Nat.add 163 (Nat.mul 40 r)) (Nat.add (Nat.add 163 (Nat.mul 40 r)) r))) r
theorem fx0 {ρ : Nat → Int} {t : Lean.RArray zV} {g : Nat → Int32} (hg : yA ρ t g) {r s : Nat} (hr : r < 40) (hs : s < 40) {m : Nat} (h : t.get (163 + 40 * r + s) = .inl m) : decide (fxF g r s = 0) = Nat.beq m 0 := by
  have hv := hg (163 + 40 * r + s) (by omega)
  rw [h] at hv
  obtain ⟨hl, e⟩ := hv
  injection e with e
  have e2 : fxF g r s = Int32.ofNat m := e
  rw [e2]
  exact n32_eq hl (by decide)
theorem zUs_ok {ρ : Nat → Int} {D : zD} (hD : okD ρ D) {t : Lean.RArray zV} {g : Nat → Int32} (hg : yA ρ t g) {p q r : Nat} (hp : p < 40) (hq : q < 40) (hr : r < 40) : ∀ {s : Nat} {b : Bool}, s ≤ 40 → zUs D t p q r s = some b → (List.range' 0 s).all (unP g p q r) = b := by
  intro s
  induction s with
  | zero => intro b _ h; cases h; rfl
  | succ s ih =>
    intro b hs h
    rw [List.range'_1_concat, List.all_append, Nat.zero_add]
    have h : Sum.rec (motive := fun _ => Option Bool) (fun m => Bool.rec (motive := fun _ => Option Bool) (Option.rec (motive := fun _ => Option Bool) none (fun b => Bool.rec (motive := fun _ => Option Bool) (zUs D t p q r s) (some false) b) (zCr D t p q r s)) (zUs D t p q r s) (Nat.beq m 0)) (fun _ => none) (t.get (163 + 40 * r + s)) = some b := h
    cases hx : t.get (163 + 40 * r + s) with
    | inr z => rw [hx] at h; cases h
    | inl m =>
      rw [hx] at h
      have hf := fx0 hg hr (by omega) hx
      have h : Bool.rec (motive := fun _ => Option Bool) (Option.rec (motive := fun _ => Option Bool) none (fun b => Bool.rec (motive := fun _ => Option Bool) (zUs D t p q r s) (some false) b) (zCr D t p q r s)) (zUs D t p q r s) (Nat.beq m 0) = some b := h
      have eu : [s].all (unP g p q r) = unP g p q r s := by rw [List.all_cons, List.all_nil, Bool.and_true]
      rw [eu]
      unfold unP
      rw [hf]
      cases e : Nat.beq m 0 with
      | true =>
        rw [e] at h
        have := ih (by omega) h
        unfold unP at this
        rw [this]
        exact Bool.and_true b
      | false =>
        rw [e] at h
        have h : Option.rec (motive := fun _ => Option Bool) none (fun b => Bool.rec (motive := fun _ => Option Bool) (zUs D t p q r s) (some false) b) (zCr D t p q r s) = some b := h
        cases hc : zCr D t p q r s with
        | none => rw [hc] at h; cases h
        | some c =>
          rw [hc] at h
          rw [zCr_ok hD hg hp hq hr (by omega) hc]
          cases c with
          | true =>
            have h : some false = some b := h
            cases h
            exact Bool.and_false _
          | false =>
            have := ih (by omega) h
            unfold unP at this
            rw [this]
            exact Bool.and_true b
theorem zUr_ok {ρ : Nat → Int} {D : zD} (hD : okD ρ D) {t : Lean.RArray zV} {g : Nat → Int32} (hg : yA ρ t g) {p q : Nat} (hp : p < 40) (hq : q < 40) : ∀ {r : Nat} {b : Bool}, r ≤ 40 → zUr D t p q r = some b → (List.range' 0 r).all (fun r => (List.range' 0 r).all (unP g p q r)) = b := by
  intro r
  induction r with
  | zero => intro b _ h; cases h; rfl
  | succ r ih =>
    intro b hr h
    rw [List.range'_1_concat, List.all_append, Nat.zero_add]
    have eu : [r].all (fun r => (List.range' 0 r).all (unP g p q r)) = (List.range' 0 r).all (unP g p q r) := by rw [List.all_cons, List.all_nil, Bool.and_true]
    rw [eu]
    have h : Bool.rec (motive := fun _ => Option Bool) (Option.rec (motive := fun _ => Option Bool) none (fun b => Bool.rec (motive := fun _ => Option Bool) (some false) (zUr D t p q r) b) (zUs D t p q r r)) (zUr D t p q r) (zZr t (163 + 40 * r) (163 + 40 * r + r)) = some b := h
    cases e : zZr t (163 + 40 * r) (163 + 40 * r + r) with
    | true =>
      rw [e] at h
      rw [ih (by omega) h]
      have : (List.range' 0 r).all (unP g p q r) = true := by
        rw [List.all_eq_true]
        intro s hs
        rw [List.mem_range'_1] at hs
        have hz := zZr_ok e (163 + 40 * r + s) (by omega) (by omega)
        have hf := fx0 hg (by omega) (by omega) (show t.get (163 + 40 * r + s) = .inl 0 from hz)
        unfold unP
        rw [hf]
        rfl
      rw [this, Bool.and_true]
    | false =>
      rw [e] at h
      have h : Option.rec (motive := fun _ => Option Bool) none (fun b => Bool.rec (motive := fun _ => Option Bool) (some false) (zUr D t p q r) b) (zUs D t p q r r) = some b := h
      cases hc : zUs D t p q r r with
      | none => rw [hc] at h; cases h
      | some c =>
        rw [hc] at h
        rw [zUs_ok hD hg hp hq (by omega) (by omega) hc]
        cases c with
        | false =>
          have h : some false = some b := h
          cases h
          exact Bool.and_false _
        | true =>
          rw [ih (by omega) h]
          exact Bool.and_true _
noncomputable def zg_208 (o p q : Nat) (W : zW) (f : zV → zR) : zR := zOb o 0 1780 W (fun t => Option.rec (motive := fun _ => zR) none (fun b => f (.inl (Bool.rec (motive := fun _ => Nat) 0 1 b))) (zUr W.1 t p q 40))
theorem zg_208_ok : zG2ok 208 zg_208 := by
  intro o p q W f v hp hq h
  obtain ⟨t, h, H⟩ := zOb_ok h
  obtain ⟨b, hb, h⟩ := zO0 h
  refine ⟨_, h, fun ρ w hW => ?_⟩
  obtain ⟨fs, c, n, g, ho, hf, hc, h1, h2, hg⟩ := H ρ w hW
  obtain ⟨gs, rfl⟩ := fs_hd hf
  refine ⟨_, _, ho, r_isUncut ho hc h1 h2 hp hq, ?_⟩
  have e : uncutF g p q = b := zUr_ok hW.1 (fun j hj => hg j (by omega)) hp hq (by omega) hb
  rw [e]
  cases b
  · exact ⟨by decide, rfl⟩
  · exact ⟨by decide, rfl⟩
