/-! THE CLASS'S FIRST PLACES BY THE KERNEL'S MACHINE, where a later place is one of them. By hand. -/
theorem bR_some {b : Bool} {r : zR} {v : Option zV × zW} (h : bR b r none = some v) : b = true ∧ r = some v := by
  cases b
  · cases h
  · exact ⟨rfl, h⟩
def zCo (x : zC) (ci a : Nat) : Bool := match x with
  | .inr (c, .inr (.inl b) :: _) => Nat.beq c ci && Nat.beq b a
  | _ => false
theorem zCo_ok {ρ : Nat → Int} {x : zC} {ci a : Nat} {o : Option pCell} (h : zCo x ci a = true) (hx : yC ρ x o) : ∃ gs, o = some (.inr (ci, .ref a :: gs)) := by
  unfold zCo at h
  split at h
  · rename_i c b fs
    rw [Bool.and_eq_true] at h
    obtain ⟨gs, h1, h2⟩ := hx
    obtain ⟨v, st, h3, h4, h5⟩ := yT_c h2
    have e1 := pBeq h.1
    have e2 := pBeq h.2
    have h4 : v = .ref b := h4
    exact ⟨st, by rw [h1, h3, h4, e1, e2]⟩
  · cases h
def zC5 (x : zC) (ci : Nat) : Bool := match x with
  | .inr (c, _) => Nat.beq c ci
  | _ => false
theorem zC5_ok {ρ : Nat → Int} {x : zC} {ci : Nat} {o : Option pCell} (h : zC5 x ci = true) (hx : yC ρ x o) : ∃ gs, o = some (.inr (ci, gs)) := by
  unfold zC5 at h
  split at h
  · rename_i c fs
    obtain ⟨gs, h1, h2⟩ := hx
    exact ⟨gs, by rw [h1, pBeq h]⟩
  · cases h
noncomputable def zSh (W : zW) : Bool := zCo (W.2.2.get 0) 8 1 && (zCo (W.2.2.get 1) 1 2 && zC5 (W.2.2.get 2) 5)
theorem zSh_ok {ρ : Nat → Int} {W : zW} {w : pW} (h : zSh W = true) (hW : yW ρ W w) : (∃ gs, w[0]? = some (.inr (8, .ref 1 :: gs))) ∧ (∃ gs, w[1]? = some (.inr (1, .ref 2 :: gs))) ∧ ∃ gs, w[2]? = some (.inr (5, gs)) := by
  unfold zSh at h
  rw [Bool.and_eq_true, Bool.and_eq_true] at h
  exact ⟨zCo_ok h.1 (hW.2.2 0), zCo_ok h.2.1 (hW.2.2 1), zC5_ok h.2.2 (hW.2.2 2)⟩
noncomputable def zInt (r : Option zV) (f : Nat → zR) : zR := match r with
  | some (.inl n) => bR (Nat.ble n 4294967295) (f n) none
  | _ => none
theorem zInt_ok {r : Option zV} {f : Nat → zR} {v : Option zV × zW} (h : zInt r f = some v) : ∃ n, r = some (.inl n) ∧ n < 4294967296 ∧ f n = some v := by
  unfold zInt at h
  split at h
  · rename_i n
    obtain ⟨h1, h2⟩ := bR_some h
    exact ⟨n, rfl, Nat.lt_of_le_of_lt (pBle h1) (by decide), h2⟩
  · cases h
/-- a place drawn and told -/
noncomputable def zStp (m : Nat) (W : zW) (c : Nat) (k : Nat → zW → zR) : zR :=
  bR (zSh W) (zGo zMM 1000000 94 [.inr (.inl 2), .inl m] W fun r W1 => zInt r fun x => bR (zSh W1) (zGo zMM 1000000 94 [.inr (.inl 2), .inl m] W1 fun r W2 => zInt r fun y => bR (zSh W2) (zGo zMM 1000000 8 [.inr (.inl 1), .inl x, .inl y] W2 fun r W3 => zInt r fun p => bR (Nat.beq p 4294967295) (k c W3) (k (Nat.succ c) W3)) none) none) none
theorem yO_i {ρ : Nat → Int} {n : Nat} {cr : Option Value} (h : yO ρ (some (.inl n)) cr) : cr = some (.int (nI n)) := by
  cases cr with
  | none => exact h.elim
  | some c =>
    have h : n < 4294967296 ∧ c = .int (Int32.ofNat n) := h
    rw [h.2]
    rfl
theorem nI_m1 {p : Nat} (h : p < 4294967296) : nI p = nI 4294967295 ↔ p = 4294967295 := by
  constructor
  · intro e
    have := congrArg (fun i : Int32 => i.toBitVec.toNat) e
    have : p % 2 ^ 32 = 4294967295 % 2 ^ 32 := this
    omega
  · intro e
    rw [e]
def lvD (i c n m : Nat) : pLv := [(4, .int (nI i)), (3, .int (nI c)), (0, .ref 0), (1, .int (nI n)), (2, .int (nI m))]
theorem zStp_ok {ρ : Nat → Int} {m c : Nat} {W : zW} {k : Nat → zW → zR} {v : Option zV × zW} (h : zStp m W c k = some v) (hm : m ≤ 1000) : ∃ c' W', k c' W' = some v ∧ c' ≤ c + 1 ∧ ∀ w, yW ρ W w → ∃ w', yW ρ W' w' ∧ ∀ {n i : Nat} {Φ : Option Value → pW → Prop}, i < n → n ≤ 20 → (∀ {lv : pLv}, lvLe (lvD (i + 1) c' n m) lv → qE 120 (41, lv, [], w') Φ) → ∀ {lv : pLv}, lvLe (lvD i c n m) lv → qE 120 (41, lv, [], w) Φ := by
  unfold zStp at h
  obtain ⟨s0, h⟩ := bR_some h
  obtain ⟨r1, W1, h, H1⟩ := zGo_ok (ρ := ρ) zMM_ok (by decide) h
  obtain ⟨x, rfl, hx, h⟩ := zInt_ok h
  obtain ⟨s1, h⟩ := bR_some h
  obtain ⟨r2, W2, h, H2⟩ := zGo_ok (ρ := ρ) zMM_ok (by decide) h
  obtain ⟨y, rfl, hy, h⟩ := zInt_ok h
  obtain ⟨s2, h⟩ := bR_some h
  obtain ⟨r3, W3, h, H3⟩ := zGo_ok (ρ := ρ) zMM_ok (by decide) h
  obtain ⟨p, rfl, hp, h⟩ := zInt_ok h
  have hc : ∃ c', k c' W3 = some v ∧ c' ≤ c + 1 ∧ ((p = 4294967295 ∧ c' = c) ∨ (p ≠ 4294967295 ∧ c' = c + 1)) := by
    cases e : Nat.beq p 4294967295 with
    | true =>
      rw [e] at h
      exact ⟨c, h, by omega, .inl ⟨pBeq e, rfl⟩⟩
    | false =>
      rw [e] at h
      refine ⟨c + 1, h, Nat.le_refl _, .inr ⟨fun e2 => ?_, rfl⟩⟩
      rw [e2] at e
      exact absurd e (by decide)
  obtain ⟨c', hk, hc1, hc2⟩ := hc
  refine ⟨c', W3, hk, hc1, fun w hW => ?_⟩
  obtain ⟨cr1, w1, a1, a2, a3⟩ := H1 [.ref 2, .int (nI m)] w ⟨rfl, ⟨by omega, rfl⟩, trivial⟩ hW
  obtain ⟨cr2, w2, b1, b2, b3⟩ := H2 [.ref 2, .int (nI m)] w1 ⟨rfl, ⟨by omega, rfl⟩, trivial⟩ a2
  obtain ⟨cr3, w3, d1, d2, d3⟩ := H3 [.ref 1, .int (nI x), .int (nI y)] w2 ⟨rfl, ⟨hx, rfl⟩, ⟨hy, rfl⟩, trivial⟩ b2
  rw [yO_i a1] at a3
  rw [yO_i b1] at b3
  rw [yO_i d1] at d3
  obtain ⟨⟨g0, e0⟩, ⟨g1, e1⟩, ⟨g2, e2⟩⟩ := zSh_ok s0 hW
  obtain ⟨⟨g0', e0'⟩, ⟨g1', e1'⟩, ⟨g2', e2'⟩⟩ := zSh_ok s1 a2
  obtain ⟨⟨g0'', e0''⟩, ⟨g1'', e1''⟩, ⟨g2'', e2''⟩⟩ := zSh_ok s2 b2
  refine ⟨w3, d2, fun {n i Φ} hi hn K {lv} hl => ?_⟩
  refine pe_less hl ?_
  unfold lvD
  refine pe_go rfl (s_iload rfl) ?_
  refine pe_go rfl (s_iload_n rfl) ?_
  refine pe_go rfl (s_icmp_ge_f (fun e => absurd ((nI_leI (by omega) (by omega)).mp e) (by omega))) ?_
  refine pe_go rfl (s_aload_n rfl) ?_
  refine pe_go rfl (s_getf e0 rfl) ?_
  refine pe_go rfl (s_getf e1 rfl) ?_
  refine pe_go rfl (s_iload_n rfl) ?_
  refine pe_call rfl (s_invV rfl e2 rfl rfl) a3 ?_
  refine pe_go rfl (s_istore (lv' := [(5, .int (nI x)), (4, .int (nI i)), (3, .int (nI c)), (0, .ref 0), (1, .int (nI n)), (2, .int (nI m))]) rfl) ?_
  refine pe_go rfl (s_aload_n rfl) ?_
  refine pe_go rfl (s_getf e0' rfl) ?_
  refine pe_go rfl (s_getf e1' rfl) ?_
  refine pe_go rfl (s_iload_n rfl) ?_
  refine pe_call rfl (s_invV rfl e2' rfl rfl) b3 ?_
  refine pe_go rfl (s_istore (lv' := [(6, .int (nI y)), (5, .int (nI x)), (4, .int (nI i)), (3, .int (nI c)), (0, .ref 0), (1, .int (nI n)), (2, .int (nI m))]) rfl) ?_
  refine pe_go rfl (s_aload_n rfl) ?_
  refine pe_go rfl (s_getf e0'' rfl) ?_
  refine pe_go rfl (s_iload rfl) ?_
  refine pe_go rfl (s_iload rfl) ?_
  refine pe_call rfl (s_invV rfl e1'' rfl rfl) d3 ?_
  refine pe_go rfl s_iconst ?_
  rcases hc2 with ⟨q1, q2⟩ | ⟨q1, q2⟩
  · refine pe_go rfl (s_icmp_eq_t ((nI_m1 hp).mpr q1)) ?_
    refine pe_go rfl (s_iincN (y := nI (i + 1)) rfl (nI_add _ _) (lv' := [(4, .int (nI (i + 1))), (6, .int (nI y)), (5, .int (nI x)), (3, .int (nI c)), (0, .ref 0), (1, .int (nI n)), (2, .int (nI m))]) rfl) ?_
    refine pe_go rfl s_goto ?_
    rw [q2] at K
    exact K (lvLe_of rfl rfl (by unfold lvD; repeat' (first | exact (fun _ h => absurd h List.not_mem_nil) | refine List.forall_mem_cons.mpr ⟨rfl, ?_⟩)))
  · refine pe_go rfl (s_icmp_eq_f (fun e => q1 ((nI_m1 hp).mp e))) ?_
    refine pe_go rfl (s_iincN (y := nI (c + 1)) rfl (nI_add _ _) (lv' := [(3, .int (nI (c + 1))), (6, .int (nI y)), (5, .int (nI x)), (4, .int (nI i)), (0, .ref 0), (1, .int (nI n)), (2, .int (nI m))]) rfl) ?_
    refine pe_go rfl (s_iincN (y := nI (i + 1)) rfl (nI_add _ _) (lv' := [(4, .int (nI (i + 1))), (3, .int (nI (c + 1))), (6, .int (nI y)), (5, .int (nI x)), (0, .ref 0), (1, .int (nI n)), (2, .int (nI m))]) rfl) ?_
    refine pe_go rfl s_goto ?_
    rw [q2] at K
    exact K (lvLe_of rfl rfl (by unfold lvD; repeat' (first | exact (fun _ h => absurd h List.not_mem_nil) | refine List.forall_mem_cons.mpr ⟨rfl, ?_⟩)))
noncomputable def zCh (m K : Nat) : zW → Nat → (Nat → zW → zR) → zR := Nat.rec (motive := fun _ => zW → Nat → (Nat → zW → zR) → zR) (fun W c k => k c W) (fun _ ih W c k => zStp m W c (fun c' W' => ih W' c' k)) K
theorem zCh_ok {ρ : Nat → Int} {m : Nat} (hm : m ≤ 1000) : ∀ {K i c : Nat} {W : zW} {k : Nat → zW → zR} {v : Option zV × zW}, zCh m K W c k = some v → ∃ c' W', k c' W' = some v ∧ ∀ w, yW ρ W w → ∃ w', yW ρ W' w' ∧ ∀ {n : Nat} {Φ : Option Value → pW → Prop}, i + K ≤ n → n ≤ 20 → (∀ {lv : pLv}, lvLe (lvD (i + K) c' n m) lv → qE 120 (41, lv, [], w') Φ) → ∀ {lv : pLv}, lvLe (lvD i c n m) lv → qE 120 (41, lv, [], w) Φ := by
  intro K
  induction K with
  | zero =>
    intro i c W k v h
    refine ⟨c, W, h, fun w hW => ⟨w, hW, ?_⟩⟩
    intro n Φ _ _ K lv hl
    exact K hl
  | succ K ih =>
    intro i c W k v h
    have h : zStp m W c (fun c' W' => zCh m K W' c' k) = some v := h
    obtain ⟨c1, W1, h, _, H1⟩ := zStp_ok (ρ := ρ) h hm
    obtain ⟨c2, W2, h, H2⟩ := ih (i := i + 1) h
    refine ⟨c2, W2, h, fun w hW => ?_⟩
    obtain ⟨w1, hW1, G1⟩ := H1 w hW
    obtain ⟨w2, hW2, G2⟩ := H2 w1 hW1
    refine ⟨w2, hW2, fun {n Φ} hi hn Kn {lv} hl => G1 (by omega) hn (fun {lv} hl => G2 (by omega) hn (fun {lv} hl => Kn (by
      rw [show i + (K + 1) = i + 1 + K by omega]
      exact hl)) hl) hl⟩
-- the world that stands then
noncomputable def zRd (W : zW) (a j : Nat) : Nat := match W.2.2.get a with
  | .inl (_, _, t) => (match t.get j with
    | .inl v => v
    | .inr (.inr (.inl v)) => v
    | _ => 0)
  | _ => 0
noncomputable def zFd (W : zW) (a k : Nat) : Nat := match W.2.2.get a with
  | .inr (_, fs) => (match fs[k]? with
    | some (.inl v) => v
    | some (.inr (.inr (.inl v))) => v
    | _ => 0)
  | _ => 0
noncomputable def zFI (W : zW) (a : Nat) : Nat → Int32 := fun j => nI (zRd W a j)
noncomputable def zFL (W : zW) (a : Nat) : Nat → Int64 := fun j => Int64.ofNat (zRd W a j)
noncomputable def wOf (W : zW) : pW := cM (zFI W 3) (zFI W 4) (zFI W 5) (zFL W 6) (zFI W 7) (zFI W 8) (Int64.ofNat (zFd W 2 6)) (nI (zFd W 2 7)) (nI (zFd W 2 8)) (zFI W 9) (zFI W 10) (zFI W 11) (zFI W 12) (zFL W 13) (zFI W 14) (nI (zFd W 1 7)) (nI (zFd W 1 8)) (zFL W 15) (zFL W 16) (zFI W 17) (nI (zFd W 1 12)) QP
def zVe1 (v u : zV) : Bool := match v, u with
  | .inl m, .inl n => Nat.beq m n
  | .inr (.inl m), .inr (.inl n) => Nat.beq m n
  | .inr (.inr (.inl m)), .inr (.inr (.inl n)) => Nat.beq m n
  | .inr (.inr (.inr (.inr (.inr _)))), .inr (.inr (.inr (.inr (.inr _)))) => true
  | _, _ => false
theorem zVe1_ok {v u : zV} (h : zVe1 v u = true) : v = u := by
  unfold zVe1 at h
  split at h
  · rw [pBeq h]
  · rw [pBeq h]
  · rw [pBeq h]
  · rfl
  · cases h
def zRe : Lean.RArray zV → Lean.RArray zV → Bool
  | .leaf v, .leaf u => zVe1 v u
  | .branch p l r, .branch q l' r' => Nat.beq p q && (zRe l l' && zRe r r')
  | _, _ => false
theorem zRe_ok : ∀ {t u : Lean.RArray zV}, zRe t u = true → t = u := by
  intro t
  induction t with
  | leaf v =>
    intro u h
    cases u with
    | leaf u => rw [zVe1_ok h]
    | branch q l' r' => cases h
  | branch p l r ihl ihr =>
    intro u h
    cases u with
    | leaf u => cases h
    | branch q l' r' =>
      have h : (Nat.beq p q && (zRe l l' && zRe r r')) = true := h
      rw [Bool.and_eq_true, Bool.and_eq_true] at h
      rw [pBeq h.1, ihl h.2.1, ihr h.2.2]
def zLe1 : List zV → List zV → Bool
  | [], [] => true
  | v :: S, u :: T => zVe1 v u && zLe1 S T
  | _, _ => false
theorem zLe1_ok : ∀ {S T : List zV}, zLe1 S T = true → S = T := by
  intro S
  induction S with
  | nil => intro T h; cases T with
    | nil => rfl
    | cons u T => cases h
  | cons v S ih => intro T h; cases T with
    | nil => cases h
    | cons u T =>
      have h : (zVe1 v u && zLe1 S T) = true := h
      rw [Bool.and_eq_true] at h
      rw [zVe1_ok h.1, ih h.2]
def zCe (x y : zC) : Bool := match x, y with
  | .inl (k, n, t), .inl (k', n', t') => Nat.beq k k' && (Nat.beq n n' && zRe t t')
  | .inr (c, fs), .inr (c', gs) => Nat.beq c c' && zLe1 fs gs
  | _, _ => false
theorem zCe_ok {x y : zC} (h : zCe x y = true) : x = y := by
  unfold zCe at h
  split at h
  · rw [Bool.and_eq_true, Bool.and_eq_true] at h
    rw [pBeq h.1, pBeq h.2.1, zRe_ok h.2.2]
  · rw [Bool.and_eq_true] at h
    rw [pBeq h.1, zLe1_ok h.2]
  · cases h
theorem zVq_eq {ρ : Nat → Int} {v : zV} {c d : Value} (h : zVq v c = true) (hd : yV ρ v d) : c = d := by
  unfold zVq at h
  split at h
  · rw [Bool.and_eq_true] at h
    have e := of_decide_eq_true h.2
    obtain ⟨_, rfl⟩ := hd
    rw [e]
  · have hd : d = .ref _ := hd
    rw [hd, pBeq h]
  · rw [Bool.and_eq_true] at h
    have e := of_decide_eq_true h.2
    obtain ⟨_, rfl⟩ := hd
    rw [e]
  · cases h
theorem zTq_eq {ρ : Nat → Int} : ∀ {S : List zV} {st st' : List Value}, zTq S st = true → yT ρ S st' → st = st' := by
  intro S
  induction S with
  | nil => intro st st' h h'; cases st with
    | nil => cases st' with
      | nil => rfl
      | cons c st => exact h'.elim
    | cons c st => cases h
  | cons v S ih => intro st st' h h'; cases st with
    | nil => cases h
    | cons c st =>
      unfold zTq at h
      rw [Bool.and_eq_true] at h
      obtain ⟨d, st2, rfl, h3, h4⟩ := yT_c h'
      rw [zVq_eq h.1 h3, ih h.2 h4]
def okKd (c : pCell) : Bool := match c with
  | .inl (k, _) => Nat.ble k 2
  | _ => true
theorem zCq_eq {ρ : Nat → Int} {x : zC} {c c' : pCell} (h : zCq x c = true) (hk : okKd c = true) (hx : yC ρ x (some c')) : pEq1 c c' := by
  rcases x with ⟨k, n, t⟩ | ⟨ci, fs⟩
  · rcases c with ⟨k', n', f | f | f⟩ | o
    · have h : (Nat.beq k k' && (Nat.beq n n' && (Nat.ble n 2147483647 && (!(Nat.beq k 1) && Nat.rec (motive := fun _ => Bool) true (fun j ih => zVq (t.get j) (.int (f j)) && ih) n)))) = true := h
      rw [Bool.and_eq_true, Bool.and_eq_true, Bool.and_eq_true, Bool.and_eq_true, Bool.not_eq_true'] at h
      obtain ⟨h1, h2, h3, h4, h5⟩ := h
      have h1 := pBeq h1
      have h2 := pBeq h2
      subst h1
      subst h2
      obtain ⟨_, _, g⟩ := hx (pBle hk)
      obtain ⟨f', e, g2⟩ := g (nbeqf h4)
      cases e
      exact pEq1.mkI (fun j hj => by
        have := zVq_eq (allB (P := fun j => zVq (t.get j) (.int (f j))) h5 j hj) (g2 j hj)
        injection this)
    · have h : (Nat.beq k 1 && (Nat.beq k' 1 && (Nat.beq n n' && (Nat.ble n 2147483647 && Nat.rec (motive := fun _ => Bool) true (fun j ih => zVq (t.get j) (.long (f j)) && ih) n)))) = true := h
      rw [Bool.and_eq_true, Bool.and_eq_true, Bool.and_eq_true, Bool.and_eq_true] at h
      obtain ⟨h1, h2, h3, h4, h5⟩ := h
      have h1 := pBeq h1
      have h2 := pBeq h2
      have h3 := pBeq h3
      subst h1
      subst h2
      subst h3
      obtain ⟨_, g, _⟩ := hx (by decide)
      obtain ⟨f', e, g2⟩ := g rfl
      cases e
      exact pEq1.mkL (fun j hj => by
        have := zVq_eq (allB (P := fun j => zVq (t.get j) (.long (f j))) h5 j hj) (g2 j hj)
        injection this)
    · cases h
    · cases h
  · rcases c with ⟨k', n', f | f | f⟩ | ⟨ci', gs⟩
    · cases h
    · cases h
    · cases h
    · have h : (Nat.beq ci ci' && zTq fs gs) = true := h
      rw [Bool.and_eq_true] at h
      have h1 := pBeq h.1
      subst h1
      obtain ⟨gs', e, g⟩ := hx
      cases e
      rw [zTq_eq h.2 g]
      exact pEq1.mkO
theorem zWq_get {t : Lean.RArray zC} : ∀ {w : pW} {k : Nat}, zWq t k w = true → ∀ j c, w[j]? = some c → zCq (t.get (k + j)) c = true := by
  intro w
  induction w with
  | nil => intro k _ j c hc; cases hc
  | cons d w ih =>
    intro k h j c hc
    unfold zWq at h
    rw [Bool.and_eq_true] at h
    cases j with
    | zero =>
      cases hc
      exact h.1
    | succ j =>
      have := ih h.2 j c hc
      rw [show k + 1 + j = k + (j + 1) by omega] at this
      exact this
def c35 : List pCell := [.inr (3, [.ref 36, .ref 37, .int (nI 1)]), .inl (0, 7581, .inl sPn), .inl (1, 861, .inr (.inl sPb))]
theorem QP_e : QP = (w0e.drop 18).take 17 ++ (c35 ++ w0e.drop 38) := rfl
noncomputable def zEqs (W : zW) : Bool := (List.range 17).all (fun i => zCe (W.2.2.get (18 + i)) (zT0.get (18 + i))) && (List.range 34).all (fun i => zCe (W.2.2.get (38 + i)) (zT0.get (38 + i)))
theorem w0_kd : w0e.all okKd = true := by decide +kernel
theorem wOf_eq {ρ : Nat → Int} {W : zW} {w : pW} (hW : yW ρ W w) (h1 : zWq W.2.2 0 ((wOf W).take 18) = true) (h2 : zWq W.2.2 35 c35 = true) (h3 : zEqs W = true) (h4 : W.2.1 = 72) : pEqW (wOf W) w := by
  have hl : (wOf W).length = 72 := rfl
  refine ⟨by rw [hl, hW.2.1, h4], fun k c c' hc hc' => ?_⟩
  have hx := hW.2.2 k
  rw [hc'] at hx
  have hk : k < 72 := by
    rw [← hl]
    exact (List.getElem?_eq_some_iff.mp hc).1
  have old : w0e[k]? = some c → zCe (W.2.2.get k) (zT0.get k) = true → pEq1 c c' := by
    intro g1 g2
    have g3 := zWq_get zT0_q k c g1
    rw [Nat.zero_add] at g3
    rw [zCe_ok g2] at hx
    exact zCq_eq g3 (List.all_eq_true.mp w0_kd c (List.mem_of_getElem? g1)) hx
  unfold zEqs at h3
  rw [Bool.and_eq_true] at h3
  rcases Nat.lt_or_ge k 18 with a | a
  · have g : ((wOf W).take 18)[k]? = some c := by
      rw [List.getElem?_take_of_lt a]
      exact hc
    have g2 := zWq_get h1 k c g
    rw [Nat.zero_add] at g2
    refine zCq_eq g2 ?_ hx
    have : ((wOf W).take 18).all okKd = true := rfl
    exact List.all_eq_true.mp this c (List.mem_of_getElem? g)
  · have e : (wOf W)[k]? = QP[k - 18]? := by
      have := List.getElem?_append_right (l₁ := (wOf W).take 18) (l₂ := QP) (i := k) a
      exact this
    rw [e, QP_e] at hc
    rcases Nat.lt_or_ge k 35 with b | b
    · rw [List.getElem?_append_left (by show k - 18 < 17; omega), List.getElem?_take_of_lt (by omega), List.getElem?_drop, show 18 + (k - 18) = k by omega] at hc
      refine old hc ?_
      have := List.all_eq_true.mp h3.1 (k - 18) (List.mem_range.mpr (by omega))
      rw [show 18 + (k - 18) = k by omega] at this
      exact this
    · rw [List.getElem?_append_right (by show 17 ≤ k - 18; omega)] at hc
      have hc : (c35 ++ w0e.drop 38)[k - 18 - 17]? = some c := hc
      rcases Nat.lt_or_ge k 38 with d | d
      · rw [List.getElem?_append_left (by show k - 18 - 17 < 3; omega)] at hc
        have g := zWq_get h2 _ c hc
        rw [show 35 + (k - 18 - 17) = k by omega] at g
        refine zCq_eq g ?_ hx
        have : c35.all okKd = true := rfl
        exact List.all_eq_true.mp this c (List.mem_of_getElem? hc)
      · rw [List.getElem?_append_right (by show 3 ≤ k - 18 - 17; omega)] at hc
        have hc : (w0e.drop 38)[k - 18 - 17 - 3]? = some c := hc
        rw [List.getElem?_drop, show 38 + (k - 18 - 17 - 3) = k by omega] at hc
        refine old hc ?_
        have := List.all_eq_true.mp h3.2 (k - 38) (List.mem_range.mpr (by omega))
        rw [show 38 + (k - 38) = k by omega] at this
        exact this
/-- what is checked of the world behind the first K places -/
noncomputable def trkB (m K : Nat) (xs ys : Nat → Int32) (th : Int64) : Bool := (List.range 40).all (fun p => !(bt th p) || ((Nat.ble (p + 1) 4 && ((decide (xs p = nI 1000) || decide (xs p = nI 4294966296)) && (decide (ys p = nI 1000) || decide (ys p = nI 4294966296)))) || (Nat.ble 4 p && (Nat.ble (p + 1) (4 + K) && (List.range K).any (fun i => decide (xs p = plX m i) && decide (ys p = plY m i))))))
theorem trkB_ok {m K : Nat} {xs ys : Nat → Int32} {th : Int64} (h : trkB m K xs ys th = true) : trk m K xs ys th := by
  intro p hp hb
  have h := List.all_eq_true.mp h p (List.mem_range.mpr hp)
  rw [hb, Bool.not_true, Bool.false_or, Bool.or_eq_true, Bool.and_eq_true, Bool.and_eq_true, Bool.or_eq_true, Bool.or_eq_true, Bool.and_eq_true, Bool.and_eq_true, decide_eq_true_eq, decide_eq_true_eq, decide_eq_true_eq, decide_eq_true_eq, List.any_eq_true] at h
  rcases h with h | ⟨h1, h2, i, h3, h4⟩
  · exact .inl ⟨Nat.le_of_ble_eq_true h.1, h.2⟩
  · rw [Bool.and_eq_true, decide_eq_true_eq, decide_eq_true_eq] at h4
    exact .inr ⟨Nat.le_of_ble_eq_true h1, Nat.le_of_ble_eq_true h2, i, List.mem_range.mp h3, h4⟩
noncomputable def pdB (m K : Nat) (xs ys : Nat → Int32) (th : Int64) : Bool := (List.range K).all (fun i => (List.range 40).any (fun p => bt th p && (decide (xs p = plX m i) && decide (ys p = plY m i))))
theorem pdB_ok {m K : Nat} {xs ys : Nat → Int32} {th : Int64} (h : pdB m K xs ys th = true) : ∀ j, j < K → isPd m xs ys th j := by
  intro j hj
  have h := List.all_eq_true.mp h j (List.mem_range.mpr hj)
  rw [List.any_eq_true] at h
  obtain ⟨p, h1, h2⟩ := h
  rw [Bool.and_eq_true, Bool.and_eq_true, decide_eq_true_eq, decide_eq_true_eq] at h2
  exact ⟨p, List.mem_range.mp h1, h2⟩
noncomputable def rowsB (W : zW) : Bool := (List.range 1600).all (fun j => Nat.beq (zRd W 9 j) 4294967295 || Nat.ble (zRd W 9 j + 1) 40) && ((List.range 222).all (fun j => Nat.ble (zRd W 11 j + 1) 40) && ((List.range 800).all (fun j => Nat.ble (zRd W 17 j + 1) 1600) && (Nat.ble (zFd W 1 7) 74 && (Nat.ble (zFd W 1 8) 113 && Nat.ble (zFd W 1 12) 800))))
theorem rowsB_ok {m K : Nat} {W : zW} (h : rowsB W = true) (hg : zFd W 2 8 = gS K) : cK (zFI W 3) (zFI W 4) (zFI W 7) (zFI W 8) (Int64.ofNat (zFd W 2 6)) (nI (zFd W 2 7)) (nI (gS K)) (zFI W 14) QP (wOf W) := by
  unfold rowsB at h
  rw [Bool.and_eq_true, Bool.and_eq_true, Bool.and_eq_true, Bool.and_eq_true, Bool.and_eq_true] at h
  obtain ⟨h1, h2, h3, h4, h5, h6⟩ := h
  refine ⟨_, _, zFI W 9, _, zFI W 11, _, _, zFd W 1 7, zFd W 1 8, _, _, zFI W 17, zFd W 1 12, fun j hj => ?_, fun j hj => ?_, fun j hj => ?_, Nat.le_of_ble_eq_true h4, Nat.le_of_ble_eq_true h5, Nat.le_of_ble_eq_true h6, by rw [← hg]; rfl⟩
  · have := List.all_eq_true.mp h1 j (List.mem_range.mpr hj)
    rw [Bool.or_eq_true] at this
    rcases this with g | g
    · exact .inl (congrArg nI (pBeq g))
    · exact .inr ⟨zRd W 9 j, Nat.le_of_ble_eq_true g, rfl⟩
  · exact ⟨zRd W 11 j, Nat.le_of_ble_eq_true (List.all_eq_true.mp h2 j (List.mem_range.mpr hj)), rfl⟩
  · exact ⟨zRd W 17 j, Nat.le_of_ble_eq_true (List.all_eq_true.mp h3 j (List.mem_range.mpr hj)), rfl⟩
noncomputable def zFin (m K : Nat) (c : Nat) (W : zW) : zR := bR (Nat.beq c (cn m K)) (bR (Nat.beq W.2.1 72) (bR (Nat.beq (zFd W 2 8) (gS K)) (bR (rowsB W) (bR (zEqs W) (bR (zWq W.2.2 35 c35) (bR (zWq W.2.2 0 ((wOf W).take 18)) (bR (trkB m K (zFI W 3) (zFI W 4) (Int64.ofNat (zFd W 2 6))) (bR (pdB m K (zFI W 3) (zFI W 4) (Int64.ofNat (zFd W 2 6))) (some (none, W)) none) none) none) none) none) none) none) none) none
noncomputable def zDup (m K : Nat) : zR := zGo zMM 1000000 64 [.inr (.inl 35), .inr (.inl 1)] (([], []), 72, zT0) (fun r W1 => match r with
  | none => zCh m K W1 0 (zFin m K)
  | some _ => none)
/-- both calls, where the first K places were run through -/
theorem o5_dup {n m e K : Nat} (hn1 : 1 ≤ n) (hn : n ≤ 20) (hm1 : 1 ≤ m) (hm : m ≤ 1000) (hK : K ≤ n) (h : (zDup m K).isSome = true) (hs : srcB m K n = true) (hr : runM m e GL P0 D0 4 = true) : lOweI 57 w0e 120 245 [.int (nI n), .int (nI m)] := by
  obtain ⟨hc, hl, hin⟩ := ref_ok hm hn hr
  obtain ⟨v, hv⟩ := Option.isSome_iff_exists.mp h
  unfold zDup at hv
  obtain ⟨r, W1, h1, H1⟩ := zGo_ok (ρ := fun _ => 0) zMM_ok (by decide) hv
  obtain ⟨cr, wp, a1, a2, a3⟩ := H1 [.ref 35, .ref 1] w0e ⟨rfl, rfl, trivial⟩ (zT0_ok okD_0)
  cases r with
  | some r => cases h1
  | none =>
    have ecr : cr = none := by
      cases cr with
      | none => rfl
      | some c => exact a1.elim
    subst ecr
    have h1 : zCh m K W1 0 (zFin m K) = some v := h1
    obtain ⟨c', W', h2, H2⟩ := zCh_ok (ρ := fun _ => 0) hm (i := 0) h1
    unfold zFin at h2
    obtain ⟨b1, h2⟩ := bR_some h2
    obtain ⟨b2, h2⟩ := bR_some h2
    obtain ⟨b3, h2⟩ := bR_some h2
    obtain ⟨b4, h2⟩ := bR_some h2
    obtain ⟨b5, h2⟩ := bR_some h2
    obtain ⟨b6, h2⟩ := bR_some h2
    obtain ⟨b7, h2⟩ := bR_some h2
    obtain ⟨b8, h2⟩ := bR_some h2
    obtain ⟨b9, h2⟩ := bR_some h2
    obtain ⟨wk, hWk, G⟩ := H2 wp a2
    have eW := wOf_eq hWk b7 b6 b5 (pBeq b2)
    have kW := rowsB_ok (m := m) (K := K) b4 (pBeq b3)
    have run : qE 120 (41, lvD 0 0 n m, [], wp) (fun r w => r = some (.int (nI (cn m n))) ∧ ∃ w2, pEqW w2 w ∧ ∃ (xs ys hx hy : Nat → Int32) (th : Int64) (hq g : Int32) (rd : Nat → Int32), cK xs ys hx hy th hq g rd QP w2) := by
      refine G (by omega) hn (fun {lv} hl => ?_) (lvLe_of rfl rfl (by unfold lvD; repeat' (first | exact (fun _ h => absurd h List.not_mem_nil) | refine List.forall_mem_cons.mpr ⟨rfl, ?_⟩)))
      rw [Nat.zero_add] at hl
      obtain ⟨r, w2, ⟨hr2, xs, ys, th, g, hk2⟩, hrun⟩ := l_drawnD hn hm hin hs (n - K) K (by omega) (Nat.le_refl K) (pBeq b1) (trkB_ok b8) (pdB_ok b9) kW hl
      obtain ⟨w3, hrun3, e3⟩ := pRest_e eW hrun
      exact ⟨r, w3, ⟨hr2, w2, e3, xs, ys, _, _, th, _, _, _, hk2⟩, hrun3⟩
    obtain ⟨r, w, ⟨rfl, w2, e2, xs, ys, hx, hy, th, hq, g, rd, hk⟩, hrun⟩ := run
    exact drawn_b hn1 hn hm1 hm (drawn_p hn1 hn hm1 hm a3 hrun) e2 hk hc hl
