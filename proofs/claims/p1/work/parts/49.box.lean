/-! WHAT IS NOT KNOWN OF ARGUMENTS, IN BOUNDS. By hand. -/
def rho (l : List Int) (v : Nat) : Int := l.getD v 0
def zBs : List (Int × Int) → List Int → Prop
  | [], [] => True
  | b :: bs, x :: l => (b.1 ≤ x ∧ x ≤ b.2) ∧ zBs bs l
  | _, _ => False
theorem zBs_get : ∀ {bs : List (Int × Int)} {l : List Int}, zBs bs l → ∀ (v : Nat) (b : Int × Int), bs[v]? = some b → b.1 ≤ rho l v ∧ rho l v ≤ b.2 := by
  intro bs
  induction bs with
  | nil => intro l _ v b h; cases h
  | cons c bs ih =>
    intro l h v b hb
    cases l with
    | nil => exact h.elim
    | cons x l =>
      cases v with
      | zero =>
        cases hb
        exact h.1
      | succ v => exact ih h.2 v b hb
theorem zBs_out : ∀ {bs : List (Int × Int)} {l : List Int}, zBs bs l → ∀ (v : Nat), bs[v]? = none → rho l v = 0 := by
  intro bs
  induction bs with
  | nil => intro l h v _; cases l with
    | nil => rfl
    | cons x l => exact h.elim
  | cons c bs ih =>
    intro l h v hb
    cases l with
    | nil => exact h.elim
    | cons x l =>
      cases v with
      | zero => cases hb
      | succ v => exact ih h.2 v hb
def zTs (ρ : Nat → Int) : List (zP × zSgn) → Prop
  | [] => True
  | e :: T => sgOK e.2 (evP ρ e.1) ∧ zTs ρ T
theorem zTs_ok {ρ : Nat → Int} : ∀ {T : List (zP × zSgn)}, zTs ρ T → ∀ e, e ∈ T → sgOK e.2 (evP ρ e.1) := by
  intro T
  induction T with
  | nil => intro _ e h; cases h
  | cons t T ih =>
    intro h e he
    rcases List.mem_cons.mp he with rfl | he
    · exact h.1
    · exact ih h.2 e he
theorem okD_of {bs : List (Int × Int)} {T : List (zP × zSgn)} {l : List Int} (hb : zBs bs l) (hT : zTs (rho l) T) : okD (rho l) (bs, T) := by
  refine ⟨fun v => ?_, fun e he => zTs_ok hT e he⟩
  unfold zBv
  show (match bs[v]? with | some x => x | none => (-4294967296, 4294967296)).1 ≤ rho l v ∧ rho l v ≤ (match bs[v]? with | some x => x | none => (-4294967296, 4294967296)).2
  cases h : bs[v]? with
  | some b => exact zBs_get hb v b h
  | none =>
    rw [zBs_out hb v h]
    decide
theorem sg_n {z : Int} (h : z < 0) : sgOK (true, false, false) z := ⟨fun _ => rfl, fun g => absurd g (by omega), fun g => absurd g (by omega)⟩
theorem sg_z {z : Int} (h : z = 0) : sgOK (false, true, false) z := ⟨fun g => absurd g (by omega), fun _ => rfl, fun g => absurd g (by omega)⟩
theorem sg_p {z : Int} (h : 0 < z) : sgOK (false, false, true) z := ⟨fun g => absurd g (by omega), fun g => absurd g (by omega), fun _ => rfl⟩
theorem yV_c {ρ : Nat → Int} {i : Int32} {n : Nat} {c : Int} (hn : n < 4294967296) (hc : zZ n = c) (h : i.toInt = c) : yV ρ (.inl n) (.int i) := by
  refine ⟨hn, congrArg Value.int ?_⟩
  apply Int32.toInt_inj.mp
  rw [h, i32t hn, hc]
theorem yV_v {ρ : Nat → Int} {j : Nat} {i : Int32} (h : ρ j = i.toInt) : yV ρ (.inr (.inr (.inr (.inl [(1, [j])])))) (.int i) := by
  show Value.int i = .int (Int32.ofInt (1 * (ρ j * 1) + 0))
  rw [h, show (1 * (i.toInt * 1) + 0 : Int) = i.toInt by omega, Int32.ofInt_toInt]
theorem zBox_I {n jx jm : Nat} {as : List zV} {bs : List (Int × Int)} {T : List (zP × zSgn)} {l : List Int} {cas : List Value} (hx : jx < 357) (hm : jm < 357) (h : (zCall zVe n jx jm as ((bs, T), 72, zT0)).isSome = true) (hb : zBs bs l) (hT : zTs (rho l) T) (ha : yT (rho l) as cas) : lOweI 57 w0e jx jm cas := zCall_I hx hm h (okD_of hb hT) ha
theorem zBox_L {n jx jm : Nat} {as : List zV} {bs : List (Int × Int)} {T : List (zP × zSgn)} {l : List Int} {cas : List Value} (hx : jx < 357) (hm : jm < 357) (h : (zCall zVel n jx jm as ((bs, T), 72, zT0)).isSome = true) (hb : zBs bs l) (hT : zTs (rho l) T) (ha : yT (rho l) as cas) : lOweL 57 w0e jx jm cas := zCall_L hx hm h (okD_of hb hT) ha
theorem izc (a b : Int) : a < b ∨ b ≤ a := by omega
