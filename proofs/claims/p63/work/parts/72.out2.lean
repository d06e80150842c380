/-! A POINT TAKEN OUT of a mesh at rest. By hand. -/
theorem St.cuts_ok : ∀ (d n : Nat) {S S' : St}, n ≤ 40 → S.wI → S.okR → St.cuts d n S S' → S'.wI ∧ S'.okR := by
  intro d
  induction d with
  | zero =>
    intro n S S' _ h hR hc
    have hc' : S' = S := hc
    rw [hc']
    exact ⟨h, hR⟩
  | succ d ih =>
    intro n S S' hn h hR hc
    obtain ⟨S1, h1, h2⟩ := hc
    obtain ⟨k1, k2⟩ := St.cutS_ok hn h hR h1
    exact ih (n - 1) (by omega) k1 k2 h2
def St.rst (S T : St) : Prop := T.hs = S.hs ∧ T.hx = S.hx ∧ T.hy = S.hy ∧ T.hn = S.hn ∧ T.g = S.g
theorem St.rst_trans {S T R : St} (h : S.rst T) (k : T.rst R) : S.rst R := ⟨k.1.trans h.1, k.2.1.trans h.2.1, k.2.2.1.trans h.2.2.1, k.2.2.2.1.trans h.2.2.2.1, k.2.2.2.2.trans h.2.2.2.2⟩
theorem St.cuts_rst : ∀ (d n : Nat) {S S' : St}, St.cuts d n S S' → S.rst S' := by
  intro d
  induction d with
  | zero =>
    intro n S S' hc
    have hc' : S' = S := hc
    rw [hc']
    exact ⟨rfl, rfl, rfl, rfl, rfl⟩
  | succ d ih =>
    intro n S S' hc
    obtain ⟨S1, h1, h2⟩ := hc
    refine St.rst_trans ?_ (ih (n - 1) h2)
    rcases h1 with ⟨k, rd, -, -, -, e⟩ | ⟨-, e⟩
    · obtain ⟨w, u, m, e2⟩ := St.put_st S (S.rr ((k + n - 1) % n)) (S.rr k) (S.rr ((k + 1) % n))
      rw [e, e2]
      exact ⟨rfl, rfl, rfl, rfl, rfl⟩
    · rw [e]
      exact ⟨rfl, rfl, rfl, rfl, rfl⟩
theorem St.stp_rst (p n : Nat) : ∀ (d k : Nat) (S : St), S.rst (St.stp p n d k S) := by
  intro d
  induction d with
  | zero => intro k S; exact ⟨rfl, rfl, rfl, rfl, rfl⟩
  | succ d ih =>
    intro k S
    have h := ih (k + 1) (S.strip p (S.rr k) (S.rr ((k + 1) % n)))
    exact St.rst_trans (T := S.strip p (S.rr k) (S.rr ((k + 1) % n))) ⟨rfl, rfl, rfl, rfl, rfl⟩ h
theorem St.out_pre {S : St} (h : S.Gd) (hlE : S.lstE 1600) (hR : S.okR) {p : Nat} (hp : p < 40) (sp : S.has p) (hl : ∀ v : Nat, v < 40 → ¬ S.bound p v) : ∃ v0 : Nat, v0 < 40 ∧ S.frF p 40 0 (-1) = (v0 : Int) ∧ (∀ j : Nat, S.it p v0 j < 40) ∧ ∀ (n : Nat) (rd : Nat → Int), S.rnd p v0 n → (∀ j : Nat, j < n → rd j = (S.it p v0 j : Int)) → (∀ j : Nat, n ≤ j → rd j = S.rd j) → 2 ≤ n ∧ ∀ S' : St, St.cuts (n - 2) n ((St.stp p n n 0 (S.u_rd rd)).rem p) S' → (S'.Msh ∧ S'.wI ∧ S'.wq ∧ S'.w4 ∧ S'.Cor) ∧ (S'.xs = S.xs ∧ S'.ys = S.ys ∧ S'.th = bClr S.th p ∧ S'.fx = S.fx) ∧ S.rst S' ∧ S'.okR := by
  obtain ⟨hM, hD, hI, hq, hn0, hcor, -⟩ := h
  have hin := St.loose_in hM hp sp hl
  have hG := hM.1
  obtain ⟨hinB, hdi, hA, hcy, hpo, hcv, hbd, hbn, hal⟩ := id hG
  have hback : ∀ u : Nat, u < 40 → S.E u p → S.E p u := by
    intro u hu z z2
    have := hbd u p hu hp z z2
    apply hin
    unfold St.onside at this
    unfold St.onB
    omega
  have hforth : ∀ u : Nat, u < 40 → S.E p u → S.E u p := by
    intro u hu z z2
    have := hbd p u hp hu z z2
    apply hin
    unfold St.onside at this
    unfold St.onB
    omega
  have near := fun v hv => St.near_E hG.PM hlE (a := p) (b := v) hp hv
  have fr : ∃ v0 : Nat, v0 < 40 ∧ S.frF p 40 0 (-1) = (v0 : Int) ∧ S.E p v0 := by
    rcases S.frF_ge p 40 0 (-1) with ⟨q, q1, q2, q3, q4, q5⟩ | ⟨-, z | z⟩
    · exfalso
      have e := (near q (by omega)).mp q4
      have ep : S.E p q := e.elim (fun z => z) (fun z => absurd q5 z)
      exact hforth q (by omega) ep q5
    · exfalso
      obtain ⟨v, hv, v1⟩ := hal p hp sp
      rcases z.2 with y | y
      · exact y rfl
      · exact y v (Nat.zero_le _) (by omega) ((near v hv).mpr (Or.inl v1))
    · obtain ⟨-, q, q1, q2, q3, q4⟩ := z
      refine ⟨q, by omega, q3, ?_⟩
      have e := (near q (by omega)).mp q4
      exact e.elim (fun z => z) (fun z => hback q (by omega) z)
  obtain ⟨v0, hv0, hf, hE0⟩ := fr
  have hall : ∀ i : Nat, S.ap (p * 40 + S.it p v0 i) ≠ -1 ∧ S.it p v0 i < 40 := by
    intro i
    induction i with
    | zero => exact ⟨hE0, hv0⟩
    | succ i ih =>
      obtain ⟨c, hc, k1, k2, k3, k4, -⟩ := St.step hA hcy hpo hp ih.2 ih.1
      have e : S.it p v0 (i + 1) = c := k2
      rw [e]
      exact ⟨hback c hc (by unfold St.E; omega), hc⟩
  refine ⟨v0, hv0, hf, fun j => (hall j).2, fun n rd hr hrd hrd2 => ?_⟩
  obtain ⟨k1, k2⟩ := St.out_ok hM hq (St.Del_w4 hD) hp hin sp hl hv0 hE0 hr hrd
  refine ⟨k1, fun S' hc => ?_⟩
  obtain ⟨m1, m2, m3, m4, m5, m6, m7⟩ := k2 S' hc
  have hn40 : n ≤ 40 := hr.2.1
  have hI0 : (S.u_rd rd).wI := ⟨hI.A, hI.Q, hI.B, hI.I, hI.U, hI.CN⟩
  have hR0 : (S.u_rd rd).okR := by
    intro j hj
    show 0 ≤ rd j ∧ rd j < 40
    by_cases c : j < n
    · rw [hrd j c]
      have := (hall j).2
      omega
    · rw [hrd2 j (by omega)]
      exact hR j hj
  obtain ⟨w1, w2⟩ := St.stp_ok p n n 0 (S.u_rd rd) hI0 hR0
  obtain ⟨w3, w4⟩ := St.rem_ok (p := p) w1 w2
  obtain ⟨w5, w6⟩ := St.cuts_ok (n - 2) n hn40 w3 w4 hc
  have hrst : S.rst S' := by
    have r1 : S.rst (S.u_rd rd) := ⟨rfl, rfl, rfl, rfl, rfl⟩
    have r2 := St.stp_rst p n n 0 (S.u_rd rd)
    have r3 : (St.stp p n n 0 (S.u_rd rd)).rst ((St.stp p n n 0 (S.u_rd rd)).rem p) := ⟨rfl, rfl, rfl, rfl, rfl⟩
    exact St.rst_trans (St.rst_trans (St.rst_trans r1 r2) r3) (St.cuts_rst (n - 2) n hc)
  have hcor' : S'.Cor := by
    obtain ⟨⟨s0, s1, s2, s3⟩, ⟨x0, y0⟩, ⟨x1, y1⟩, ⟨x2, y2⟩, x3, y3⟩ := hcor
    have hh : ∀ u : Nat, u ≠ p → S.has u → S'.has u := fun u hu z => by
      show bt S'.th u = true
      rw [m6, bt_clr (by omega), show bt S.th u = true from z]
      simp [hu]
    have n0 : 0 ≠ p := fun z => hin (by rw [← z]; unfold St.onB; omega)
    have n1 : 1 ≠ p := fun z => hin (by rw [← z]; unfold St.onB; omega)
    have n2 : 2 ≠ p := fun z => hin (by rw [← z]; unfold St.onB; omega)
    have n3 : 3 ≠ p := fun z => hin (by rw [← z]; unfold St.onB; omega)
    unfold St.Cor
    rw [m4, m5]
    exact ⟨⟨hh 0 n0 s0, hh 1 n1 s1, hh 2 n2 s2, hh 3 n3 s3⟩, ⟨x0, y0⟩, ⟨x1, y1⟩, ⟨x2, y2⟩, x3, y3⟩
  exact ⟨⟨m1, w5, m2, m3, hcor'⟩, ⟨m4, m5, m6, m7⟩, hrst, w6⟩
