/-! THE CODE OF EVERY METHOD AS LEAVES, with its proof. By program (wip/tools/mk46.py). -/
theorem zMem {T : List Nat} {t : Nat} (h : T.any (fun u => Nat.beq u t) = true) : t ∈ T := by
  obtain ⟨u, hu, e⟩ := List.any_eq_true.mp h
  rw [← pBeq e]
  exact hu
theorem zMem1 {T : List Nat} {t : Nat} (h : T.any (fun u => Nat.beq u t) = true) : ∀ u, u ∈ [t] → u ∈ T := fun u hu => by
  rw [List.mem_singleton.mp hu]
  exact zMem h
theorem zMems {T dt : List Nat} (h : dt.all (fun t => T.any (fun u => Nat.beq u t)) = true) : ∀ t, t ∈ dt → t ∈ T := fun t hm => zMem (List.all_eq_true.mp h t hm)
theorem zGt {b : Bool} {x : zF} (h : b = true) : x = zGd b x := by
  rw [h]
  rfl
theorem zNt_c {j n mx : Nat} (h : (Nat.beq j 356 || Nat.beq j 355 || Nat.beq j 187) = false) (hg : (Nat.ble j 356 && Nat.ble mx 999) = true) : zq_calls j n mx = zNt j n mx := by
  rw [Bool.or_eq_false_iff, Bool.or_eq_false_iff] at h
  unfold zNt
  rw [h.1.1, h.1.2, h.2, hg]
  rfl
theorem zNv_c {j n ci mx : Nat} (h : (Nat.beq j 191 || (Nat.beq j 192 || (Nat.beq j 193 || (Nat.beq j 196 || (Nat.beq j 208 || (Nat.beq j 212 || (Nat.beq j 213 || Nat.beq j 217))))))) = false) (hg : (Nat.ble j 356 && Nat.ble mx 999) = true) : zq_calli j n ci mx = zNv j n ci mx := by
  rw [Bool.or_eq_false_iff, Bool.or_eq_false_iff, Bool.or_eq_false_iff, Bool.or_eq_false_iff, Bool.or_eq_false_iff, Bool.or_eq_false_iff, Bool.or_eq_false_iff] at h
  obtain ⟨h1, h2, h3, h4, h5, h6, h7, h8⟩ := h
  unfold zNv
  rw [h1, h2, h3, h4, h5, h6, h7, h8, hg]
  cases (Nat.beq n 1 && (Nat.beq ci 9 && (Nat.ble 2 mx && Nat.ble mx 999))) <;> cases (Nat.beq n 2 && (Nat.beq ci 9 && (Nat.ble 3 mx && Nat.ble mx 999))) <;> rfl
def zAll2 (P : Nat → Prop) : List Nat → Prop
  | [] => True
  | t :: T => P t ∧ zAll2 P T
theorem zAll2_ok {P : Nat → Prop} : ∀ {T : List Nat}, zAll2 P T → ∀ t, t ∈ T → P t := by
  intro T
  induction T with
  | nil => intro _ t h; cases h
  | cons a T ih =>
    intro h t ht
    rcases List.mem_cons.mp ht with rfl | ht
    · exact h.1
    · exact ih h.2 t ht
theorem zc_iconst {i : Nat} {T : List Nat} {J : Nat → Option pE} (hJ : ∀ pc, pI i pc = J pc) {pc : Nat} (nx : Nat) {c : List zF} (n : Int) (v : Nat) (hI : J pc = some (.iconst n, [v])) (hn : Nat.add pc 1 = nx) (h1 : Nat.ble v 4294967295 = true) (hc : zCd i T nx c) : zCd i T pc (zq_k v :: c) := by
  subst hn
  exact ⟨.iconst n, [v], (hJ pc).trans hI, (zGt h1), (fun t h => by cases h), hc⟩
theorem zc_bipush {i : Nat} {T : List Nat} {J : Nat → Option pE} (hJ : ∀ pc, pI i pc = J pc) {pc : Nat} (nx : Nat) {c : List zF} (n : Int) (v : Nat) (hI : J pc = some (.bipush n, [v])) (hn : Nat.add pc 2 = nx) (h1 : Nat.ble v 4294967295 = true) (hc : zCd i T nx c) : zCd i T pc (zq_k v :: c) := by
  subst hn
  exact ⟨.bipush n, [v], (hJ pc).trans hI, (zGt h1), (fun t h => by cases h), hc⟩
theorem zc_sipush {i : Nat} {T : List Nat} {J : Nat → Option pE} (hJ : ∀ pc, pI i pc = J pc) {pc : Nat} (nx : Nat) {c : List zF} (n : Int) (v : Nat) (hI : J pc = some (.sipush n, [v])) (hn : Nat.add pc 3 = nx) (h1 : Nat.ble v 4294967295 = true) (hc : zCd i T nx c) : zCd i T pc (zq_k v :: c) := by
  subst hn
  exact ⟨.sipush n, [v], (hJ pc).trans hI, (zGt h1), (fun t h => by cases h), hc⟩
theorem zc_iload_n {i : Nat} {T : List Nat} {J : Nat → Option pE} (hJ : ∀ pc, pI i pc = J pc) {pc : Nat} (nx : Nat) {c : List zF} (k : Fin 4) {x : zF} (hI : J pc = some (.iload_n k, [])) (hn : Nat.add pc 1 = nx) (hx : zq_ild k = x) (hc : zCd i T nx c) : zCd i T pc (x :: c) := by
  subst hn
  exact ⟨.iload_n k, [], (hJ pc).trans hI, (hx.symm), (fun t h => by cases h), hc⟩
theorem zc_iload {i : Nat} {T : List Nat} {J : Nat → Option pE} (hJ : ∀ pc, pI i pc = J pc) {pc : Nat} (nx : Nat) {c : List zF} (k : Nat) {x : zF} (hI : J pc = some (.iload k, [])) (hn : Nat.add pc 2 = nx) (hx : zq_ild k = x) (hc : zCd i T nx c) : zCd i T pc (x :: c) := by
  subst hn
  exact ⟨.iload k, [], (hJ pc).trans hI, (hx.symm), (fun t h => by cases h), hc⟩
theorem zc_lload_n {i : Nat} {T : List Nat} {J : Nat → Option pE} (hJ : ∀ pc, pI i pc = J pc) {pc : Nat} (nx : Nat) {c : List zF} (k : Fin 4) {x : zF} (hI : J pc = some (.lload_n k, [])) (hn : Nat.add pc 1 = nx) (hx : zq_lld k = x) (hc : zCd i T nx c) : zCd i T pc (x :: c) := by
  subst hn
  exact ⟨.lload_n k, [], (hJ pc).trans hI, (hx.symm), (fun t h => by cases h), hc⟩
theorem zc_lload {i : Nat} {T : List Nat} {J : Nat → Option pE} (hJ : ∀ pc, pI i pc = J pc) {pc : Nat} (nx : Nat) {c : List zF} (k : Nat) {x : zF} (hI : J pc = some (.lload k, [])) (hn : Nat.add pc 2 = nx) (hx : zq_lld k = x) (hc : zCd i T nx c) : zCd i T pc (x :: c) := by
  subst hn
  exact ⟨.lload k, [], (hJ pc).trans hI, (hx.symm), (fun t h => by cases h), hc⟩
theorem zc_aload_n {i : Nat} {T : List Nat} {J : Nat → Option pE} (hJ : ∀ pc, pI i pc = J pc) {pc : Nat} (nx : Nat) {c : List zF} (k : Fin 4) {x : zF} (hI : J pc = some (.aload_n k, [])) (hn : Nat.add pc 1 = nx) (hx : zq_ald k = x) (hc : zCd i T nx c) : zCd i T pc (x :: c) := by
  subst hn
  exact ⟨.aload_n k, [], (hJ pc).trans hI, (hx.symm), (fun t h => by cases h), hc⟩
theorem zc_istore_n {i : Nat} {T : List Nat} {J : Nat → Option pE} (hJ : ∀ pc, pI i pc = J pc) {pc : Nat} (nx : Nat) {c : List zF} (k : Fin 4) {x : zF} (hI : J pc = some (.istore_n k, [])) (hn : Nat.add pc 1 = nx) (hx : zq_ist k = x) (hc : zCd i T nx c) : zCd i T pc (x :: c) := by
  subst hn
  exact ⟨.istore_n k, [], (hJ pc).trans hI, (hx.symm), (fun t h => by cases h), hc⟩
theorem zc_istore {i : Nat} {T : List Nat} {J : Nat → Option pE} (hJ : ∀ pc, pI i pc = J pc) {pc : Nat} (nx : Nat) {c : List zF} (k : Nat) {x : zF} (hI : J pc = some (.istore k, [])) (hn : Nat.add pc 2 = nx) (hx : zq_ist k = x) (hc : zCd i T nx c) : zCd i T pc (x :: c) := by
  subst hn
  exact ⟨.istore k, [], (hJ pc).trans hI, (hx.symm), (fun t h => by cases h), hc⟩
theorem zc_lstore_n {i : Nat} {T : List Nat} {J : Nat → Option pE} (hJ : ∀ pc, pI i pc = J pc) {pc : Nat} (nx : Nat) {c : List zF} (k : Fin 4) {x : zF} (hI : J pc = some (.lstore_n k, [])) (hn : Nat.add pc 1 = nx) (hx : zq_lst k = x) (hc : zCd i T nx c) : zCd i T pc (x :: c) := by
  subst hn
  exact ⟨.lstore_n k, [], (hJ pc).trans hI, (hx.symm), (fun t h => by cases h), hc⟩
theorem zc_lstore {i : Nat} {T : List Nat} {J : Nat → Option pE} (hJ : ∀ pc, pI i pc = J pc) {pc : Nat} (nx : Nat) {c : List zF} (k : Nat) {x : zF} (hI : J pc = some (.lstore k, [])) (hn : Nat.add pc 2 = nx) (hx : zq_lst k = x) (hc : zCd i T nx c) : zCd i T pc (x :: c) := by
  subst hn
  exact ⟨.lstore k, [], (hJ pc).trans hI, (hx.symm), (fun t h => by cases h), hc⟩
theorem zc_astore_n {i : Nat} {T : List Nat} {J : Nat → Option pE} (hJ : ∀ pc, pI i pc = J pc) {pc : Nat} (nx : Nat) {c : List zF} (k : Fin 4) {x : zF} (hI : J pc = some (.astore_n k, [])) (hn : Nat.add pc 1 = nx) (hx : zq_ast k = x) (hc : zCd i T nx c) : zCd i T pc (x :: c) := by
  subst hn
  exact ⟨.astore_n k, [], (hJ pc).trans hI, (hx.symm), (fun t h => by cases h), hc⟩
theorem zc_lconst {i : Nat} {T : List Nat} {J : Nat → Option pE} (hJ : ∀ pc, pI i pc = J pc) {pc : Nat} (nx : Nat) {c : List zF} (k : Fin 2) (hI : J pc = some (.lconst k, [])) (hn : Nat.add pc 1 = nx) (hc : zCd i T nx c) : zCd i T pc (zq_kl (k : Nat) :: c) := by
  subst hn
  exact ⟨.lconst k, [], (hJ pc).trans hI, (rfl), (fun t h => by cases h), hc⟩
theorem zc_iinc {i : Nat} {T : List Nat} {J : Nat → Option pE} (hJ : ∀ pc, pI i pc = J pc) {pc : Nat} (nx : Nat) {c : List zF} (k : Nat) (n : Int) (c0 : Nat) {x : zF} (hI : J pc = some (.iinc k n, [])) (hn : Nat.add pc 3 = nx) (h1 : zN n = c0) (hx : zq_inc k c0 = x) (hc : zCd i T nx c) : zCd i T pc (x :: c) := by
  subst hn
  exact ⟨.iinc k n, [], (hJ pc).trans hI, (by rw [← hx, ← h1]; rfl), (fun t h => by cases h), hc⟩
theorem zc_iadd {i : Nat} {T : List Nat} {J : Nat → Option pE} (hJ : ∀ pc, pI i pc = J pc) {pc : Nat} (nx : Nat) {c : List zF}  (hI : J pc = some (.iadd, [])) (hn : Nat.add pc 1 = nx) (hc : zCd i T nx c) : zCd i T pc (zq_add :: c) := by
  subst hn
  exact ⟨.iadd, [], (hJ pc).trans hI, (rfl), (fun t h => by cases h), hc⟩
theorem zc_isub {i : Nat} {T : List Nat} {J : Nat → Option pE} (hJ : ∀ pc, pI i pc = J pc) {pc : Nat} (nx : Nat) {c : List zF}  (hI : J pc = some (.isub, [])) (hn : Nat.add pc 1 = nx) (hc : zCd i T nx c) : zCd i T pc (zq_sub :: c) := by
  subst hn
  exact ⟨.isub, [], (hJ pc).trans hI, (rfl), (fun t h => by cases h), hc⟩
theorem zc_imul {i : Nat} {T : List Nat} {J : Nat → Option pE} (hJ : ∀ pc, pI i pc = J pc) {pc : Nat} (nx : Nat) {c : List zF}  (hI : J pc = some (.imul, [])) (hn : Nat.add pc 1 = nx) (hc : zCd i T nx c) : zCd i T pc (zq_mul :: c) := by
  subst hn
  exact ⟨.imul, [], (hJ pc).trans hI, (rfl), (fun t h => by cases h), hc⟩
theorem zc_iand {i : Nat} {T : List Nat} {J : Nat → Option pE} (hJ : ∀ pc, pI i pc = J pc) {pc : Nat} (nx : Nat) {c : List zF}  (hI : J pc = some (.iand, [])) (hn : Nat.add pc 1 = nx) (hc : zCd i T nx c) : zCd i T pc (zq_and :: c) := by
  subst hn
  exact ⟨.iand, [], (hJ pc).trans hI, (rfl), (fun t h => by cases h), hc⟩
theorem zc_ixor {i : Nat} {T : List Nat} {J : Nat → Option pE} (hJ : ∀ pc, pI i pc = J pc) {pc : Nat} (nx : Nat) {c : List zF}  (hI : J pc = some (.ixor, [])) (hn : Nat.add pc 1 = nx) (hc : zCd i T nx c) : zCd i T pc (zq_xor :: c) := by
  subst hn
  exact ⟨.ixor, [], (hJ pc).trans hI, (rfl), (fun t h => by cases h), hc⟩
theorem zc_idiv {i : Nat} {T : List Nat} {J : Nat → Option pE} (hJ : ∀ pc, pI i pc = J pc) {pc : Nat} (nx : Nat) {c : List zF}  (hI : J pc = some (.idiv, [])) (hn : Nat.add pc 1 = nx) (hc : zCd i T nx c) : zCd i T pc (zq_div :: c) := by
  subst hn
  exact ⟨.idiv, [], (hJ pc).trans hI, (rfl), (fun t h => by cases h), hc⟩
theorem zc_irem {i : Nat} {T : List Nat} {J : Nat → Option pE} (hJ : ∀ pc, pI i pc = J pc) {pc : Nat} (nx : Nat) {c : List zF}  (hI : J pc = some (.irem, [])) (hn : Nat.add pc 1 = nx) (hc : zCd i T nx c) : zCd i T pc (zq_rem :: c) := by
  subst hn
  exact ⟨.irem, [], (hJ pc).trans hI, (rfl), (fun t h => by cases h), hc⟩
theorem zc_ineg {i : Nat} {T : List Nat} {J : Nat → Option pE} (hJ : ∀ pc, pI i pc = J pc) {pc : Nat} (nx : Nat) {c : List zF}  (hI : J pc = some (.ineg, [])) (hn : Nat.add pc 1 = nx) (hc : zCd i T nx c) : zCd i T pc (zq_neg :: c) := by
  subst hn
  exact ⟨.ineg, [], (hJ pc).trans hI, (rfl), (fun t h => by cases h), hc⟩
theorem zc_ladd {i : Nat} {T : List Nat} {J : Nat → Option pE} (hJ : ∀ pc, pI i pc = J pc) {pc : Nat} (nx : Nat) {c : List zF}  (hI : J pc = some (.ladd, [])) (hn : Nat.add pc 1 = nx) (hc : zCd i T nx c) : zCd i T pc (zq_ladd :: c) := by
  subst hn
  exact ⟨.ladd, [], (hJ pc).trans hI, (rfl), (fun t h => by cases h), hc⟩
theorem zc_lsub {i : Nat} {T : List Nat} {J : Nat → Option pE} (hJ : ∀ pc, pI i pc = J pc) {pc : Nat} (nx : Nat) {c : List zF}  (hI : J pc = some (.lsub, [])) (hn : Nat.add pc 1 = nx) (hc : zCd i T nx c) : zCd i T pc (zq_lsub :: c) := by
  subst hn
  exact ⟨.lsub, [], (hJ pc).trans hI, (rfl), (fun t h => by cases h), hc⟩
theorem zc_lmul {i : Nat} {T : List Nat} {J : Nat → Option pE} (hJ : ∀ pc, pI i pc = J pc) {pc : Nat} (nx : Nat) {c : List zF}  (hI : J pc = some (.lmul, [])) (hn : Nat.add pc 1 = nx) (hc : zCd i T nx c) : zCd i T pc (zq_lmul :: c) := by
  subst hn
  exact ⟨.lmul, [], (hJ pc).trans hI, (rfl), (fun t h => by cases h), hc⟩
theorem zc_land {i : Nat} {T : List Nat} {J : Nat → Option pE} (hJ : ∀ pc, pI i pc = J pc) {pc : Nat} (nx : Nat) {c : List zF}  (hI : J pc = some (.land, [])) (hn : Nat.add pc 1 = nx) (hc : zCd i T nx c) : zCd i T pc (zq_land :: c) := by
  subst hn
  exact ⟨.land, [], (hJ pc).trans hI, (rfl), (fun t h => by cases h), hc⟩
theorem zc_lor {i : Nat} {T : List Nat} {J : Nat → Option pE} (hJ : ∀ pc, pI i pc = J pc) {pc : Nat} (nx : Nat) {c : List zF}  (hI : J pc = some (.lor, [])) (hn : Nat.add pc 1 = nx) (hc : zCd i T nx c) : zCd i T pc (zq_lor :: c) := by
  subst hn
  exact ⟨.lor, [], (hJ pc).trans hI, (rfl), (fun t h => by cases h), hc⟩
theorem zc_lxor {i : Nat} {T : List Nat} {J : Nat → Option pE} (hJ : ∀ pc, pI i pc = J pc) {pc : Nat} (nx : Nat) {c : List zF}  (hI : J pc = some (.lxor, [])) (hn : Nat.add pc 1 = nx) (hc : zCd i T nx c) : zCd i T pc (zq_lxor :: c) := by
  subst hn
  exact ⟨.lxor, [], (hJ pc).trans hI, (rfl), (fun t h => by cases h), hc⟩
theorem zc_ldiv {i : Nat} {T : List Nat} {J : Nat → Option pE} (hJ : ∀ pc, pI i pc = J pc) {pc : Nat} (nx : Nat) {c : List zF}  (hI : J pc = some (.ldiv, [])) (hn : Nat.add pc 1 = nx) (hc : zCd i T nx c) : zCd i T pc (zq_ldiv :: c) := by
  subst hn
  exact ⟨.ldiv, [], (hJ pc).trans hI, (rfl), (fun t h => by cases h), hc⟩
theorem zc_lneg {i : Nat} {T : List Nat} {J : Nat → Option pE} (hJ : ∀ pc, pI i pc = J pc) {pc : Nat} (nx : Nat) {c : List zF}  (hI : J pc = some (.lneg, [])) (hn : Nat.add pc 1 = nx) (hc : zCd i T nx c) : zCd i T pc (zq_lneg :: c) := by
  subst hn
  exact ⟨.lneg, [], (hJ pc).trans hI, (rfl), (fun t h => by cases h), hc⟩
theorem zc_i2l {i : Nat} {T : List Nat} {J : Nat → Option pE} (hJ : ∀ pc, pI i pc = J pc) {pc : Nat} (nx : Nat) {c : List zF}  (hI : J pc = some (.i2l, [])) (hn : Nat.add pc 1 = nx) (hc : zCd i T nx c) : zCd i T pc (zq_i2l :: c) := by
  subst hn
  exact ⟨.i2l, [], (hJ pc).trans hI, (rfl), (fun t h => by cases h), hc⟩
theorem zc_l2i {i : Nat} {T : List Nat} {J : Nat → Option pE} (hJ : ∀ pc, pI i pc = J pc) {pc : Nat} (nx : Nat) {c : List zF}  (hI : J pc = some (.l2i, [])) (hn : Nat.add pc 1 = nx) (hc : zCd i T nx c) : zCd i T pc (zq_l2i :: c) := by
  subst hn
  exact ⟨.l2i, [], (hJ pc).trans hI, (rfl), (fun t h => by cases h), hc⟩
theorem zc_lushr {i : Nat} {T : List Nat} {J : Nat → Option pE} (hJ : ∀ pc, pI i pc = J pc) {pc : Nat} (nx : Nat) {c : List zF}  (hI : J pc = some (.lushr, [])) (hn : Nat.add pc 1 = nx) (hc : zCd i T nx c) : zCd i T pc (zq_lushr :: c) := by
  subst hn
  exact ⟨.lushr, [], (hJ pc).trans hI, (rfl), (fun t h => by cases h), hc⟩
theorem zc_lshl {i : Nat} {T : List Nat} {J : Nat → Option pE} (hJ : ∀ pc, pI i pc = J pc) {pc : Nat} (nx : Nat) {c : List zF}  (hI : J pc = some (.lshl, [])) (hn : Nat.add pc 1 = nx) (hc : zCd i T nx c) : zCd i T pc (zq_lshl :: c) := by
  subst hn
  exact ⟨.lshl, [], (hJ pc).trans hI, (rfl), (fun t h => by cases h), hc⟩
theorem zc_lcmp {i : Nat} {T : List Nat} {J : Nat → Option pE} (hJ : ∀ pc, pI i pc = J pc) {pc : Nat} (nx : Nat) {c : List zF}  (hI : J pc = some (.lcmp, [])) (hn : Nat.add pc 1 = nx) (hc : zCd i T nx c) : zCd i T pc (zq_lcmp :: c) := by
  subst hn
  exact ⟨.lcmp, [], (hJ pc).trans hI, (rfl), (fun t h => by cases h), hc⟩
theorem zc_dup {i : Nat} {T : List Nat} {J : Nat → Option pE} (hJ : ∀ pc, pI i pc = J pc) {pc : Nat} (nx : Nat) {c : List zF}  (hI : J pc = some (.dup, [])) (hn : Nat.add pc 1 = nx) (hc : zCd i T nx c) : zCd i T pc (zq_dup :: c) := by
  subst hn
  exact ⟨.dup, [], (hJ pc).trans hI, (rfl), (fun t h => by cases h), hc⟩
theorem zc_pop {i : Nat} {T : List Nat} {J : Nat → Option pE} (hJ : ∀ pc, pI i pc = J pc) {pc : Nat} (nx : Nat) {c : List zF}  (hI : J pc = some (.pop, [])) (hn : Nat.add pc 1 = nx) (hc : zCd i T nx c) : zCd i T pc (zq_pop :: c) := by
  subst hn
  exact ⟨.pop, [], (hJ pc).trans hI, (rfl), (fun t h => by cases h), hc⟩
theorem zc_dup2 {i : Nat} {T : List Nat} {J : Nat → Option pE} (hJ : ∀ pc, pI i pc = J pc) {pc : Nat} (nx : Nat) {c : List zF}  (hI : J pc = some (.dup2, [])) (hn : Nat.add pc 1 = nx) (hc : zCd i T nx c) : zCd i T pc (zq_dup2 :: c) := by
  subst hn
  exact ⟨.dup2, [], (hJ pc).trans hI, (rfl), (fun t h => by cases h), hc⟩
theorem zc_iaload {i : Nat} {T : List Nat} {J : Nat → Option pE} (hJ : ∀ pc, pI i pc = J pc) {pc : Nat} (nx : Nat) {c : List zF}  (hI : J pc = some (.iaload, [])) (hn : Nat.add pc 1 = nx) (hc : zCd i T nx c) : zCd i T pc (zq_ild_ 0 :: c) := by
  subst hn
  exact ⟨.iaload, [], (hJ pc).trans hI, (rfl), (fun t h => by cases h), hc⟩
theorem zc_baload {i : Nat} {T : List Nat} {J : Nat → Option pE} (hJ : ∀ pc, pI i pc = J pc) {pc : Nat} (nx : Nat) {c : List zF}  (hI : J pc = some (.baload, [])) (hn : Nat.add pc 1 = nx) (hc : zCd i T nx c) : zCd i T pc (zq_ild_ 2 :: c) := by
  subst hn
  exact ⟨.baload, [], (hJ pc).trans hI, (rfl), (fun t h => by cases h), hc⟩
theorem zc_laload {i : Nat} {T : List Nat} {J : Nat → Option pE} (hJ : ∀ pc, pI i pc = J pc) {pc : Nat} (nx : Nat) {c : List zF}  (hI : J pc = some (.laload, [])) (hn : Nat.add pc 1 = nx) (hc : zCd i T nx c) : zCd i T pc (zq_ild_ 1 :: c) := by
  subst hn
  exact ⟨.laload, [], (hJ pc).trans hI, (rfl), (fun t h => by cases h), hc⟩
theorem zc_iastore {i : Nat} {T : List Nat} {J : Nat → Option pE} (hJ : ∀ pc, pI i pc = J pc) {pc : Nat} (nx : Nat) {c : List zF}  (hI : J pc = some (.iastore, [])) (hn : Nat.add pc 1 = nx) (hc : zCd i T nx c) : zCd i T pc (zq_iast :: c) := by
  subst hn
  exact ⟨.iastore, [], (hJ pc).trans hI, (rfl), (fun t h => by cases h), hc⟩
theorem zc_bastore {i : Nat} {T : List Nat} {J : Nat → Option pE} (hJ : ∀ pc, pI i pc = J pc) {pc : Nat} (nx : Nat) {c : List zF}  (hI : J pc = some (.bastore, [])) (hn : Nat.add pc 1 = nx) (hc : zCd i T nx c) : zCd i T pc (zq_bast :: c) := by
  subst hn
  exact ⟨.bastore, [], (hJ pc).trans hI, (rfl), (fun t h => by cases h), hc⟩
theorem zc_lastore {i : Nat} {T : List Nat} {J : Nat → Option pE} (hJ : ∀ pc, pI i pc = J pc) {pc : Nat} (nx : Nat) {c : List zF}  (hI : J pc = some (.lastore, [])) (hn : Nat.add pc 1 = nx) (hc : zCd i T nx c) : zCd i T pc (zq_last :: c) := by
  subst hn
  exact ⟨.lastore, [], (hJ pc).trans hI, (rfl), (fun t h => by cases h), hc⟩
theorem zc_arraylength {i : Nat} {T : List Nat} {J : Nat → Option pE} (hJ : ∀ pc, pI i pc = J pc) {pc : Nat} (nx : Nat) {c : List zF}  (hI : J pc = some (.arraylength, [])) (hn : Nat.add pc 1 = nx) (hc : zCd i T nx c) : zCd i T pc (zq_len :: c) := by
  subst hn
  exact ⟨.arraylength, [], (hJ pc).trans hI, (rfl), (fun t h => by cases h), hc⟩
theorem zc_lreturn {i : Nat} {T : List Nat} {J : Nat → Option pE} (hJ : ∀ pc, pI i pc = J pc) {pc : Nat} (nx : Nat) {c : List zF}  (hI : J pc = some (.lreturn, [])) (hn : Nat.add pc 1 = nx) (hc : zCd i T nx c) : zCd i T pc (zq_lret :: c) := by
  subst hn
  exact ⟨.lreturn, [], (hJ pc).trans hI, (rfl), (fun t h => by cases h), hc⟩
theorem zc_return_ {i : Nat} {T : List Nat} {J : Nat → Option pE} (hJ : ∀ pc, pI i pc = J pc) {pc : Nat} (nx : Nat) {c : List zF}  (hI : J pc = some (.return_, [])) (hn : Nat.add pc 1 = nx) (hc : zCd i T nx c) : zCd i T pc (zq_vret :: c) := by
  subst hn
  exact ⟨.return_, [], (hJ pc).trans hI, (rfl), (fun t h => by cases h), hc⟩
theorem zc_if_eq {i : Nat} {T : List Nat} {J : Nat → Option pE} (hJ : ∀ pc, pI i pc = J pc) {pc : Nat} (nx : Nat) {c : List zF} (o : Int) (t : Nat) (hI : J pc = some (.ifCond .eq o, [t])) (hn : Nat.add pc 3 = nx) (h1 : T.any (fun u => Nat.beq u t) = true) (hc : zCd i T nx c) : zCd i T pc (zq_if_eq t :: c) := by
  subst hn
  exact ⟨.ifCond .eq o, [t], (hJ pc).trans hI, (rfl), (zMem1 h1), hc⟩
theorem zc_ic_eq {i : Nat} {T : List Nat} {J : Nat → Option pE} (hJ : ∀ pc, pI i pc = J pc) {pc : Nat} (nx : Nat) {c : List zF} (o : Int) (t : Nat) (hI : J pc = some (.if_icmp .eq o, [t])) (hn : Nat.add pc 3 = nx) (h1 : T.any (fun u => Nat.beq u t) = true) (hc : zCd i T nx c) : zCd i T pc (zq_ic_eq t :: c) := by
  subst hn
  exact ⟨.if_icmp .eq o, [t], (hJ pc).trans hI, (rfl), (zMem1 h1), hc⟩
theorem zc_if_ne {i : Nat} {T : List Nat} {J : Nat → Option pE} (hJ : ∀ pc, pI i pc = J pc) {pc : Nat} (nx : Nat) {c : List zF} (o : Int) (t : Nat) (hI : J pc = some (.ifCond .ne o, [t])) (hn : Nat.add pc 3 = nx) (h1 : T.any (fun u => Nat.beq u t) = true) (hc : zCd i T nx c) : zCd i T pc (zq_if_ne t :: c) := by
  subst hn
  exact ⟨.ifCond .ne o, [t], (hJ pc).trans hI, (rfl), (zMem1 h1), hc⟩
theorem zc_ic_ne {i : Nat} {T : List Nat} {J : Nat → Option pE} (hJ : ∀ pc, pI i pc = J pc) {pc : Nat} (nx : Nat) {c : List zF} (o : Int) (t : Nat) (hI : J pc = some (.if_icmp .ne o, [t])) (hn : Nat.add pc 3 = nx) (h1 : T.any (fun u => Nat.beq u t) = true) (hc : zCd i T nx c) : zCd i T pc (zq_ic_ne t :: c) := by
  subst hn
  exact ⟨.if_icmp .ne o, [t], (hJ pc).trans hI, (rfl), (zMem1 h1), hc⟩
theorem zc_if_lt {i : Nat} {T : List Nat} {J : Nat → Option pE} (hJ : ∀ pc, pI i pc = J pc) {pc : Nat} (nx : Nat) {c : List zF} (o : Int) (t : Nat) (hI : J pc = some (.ifCond .lt o, [t])) (hn : Nat.add pc 3 = nx) (h1 : T.any (fun u => Nat.beq u t) = true) (hc : zCd i T nx c) : zCd i T pc (zq_if_lt t :: c) := by
  subst hn
  exact ⟨.ifCond .lt o, [t], (hJ pc).trans hI, (rfl), (zMem1 h1), hc⟩
theorem zc_ic_lt {i : Nat} {T : List Nat} {J : Nat → Option pE} (hJ : ∀ pc, pI i pc = J pc) {pc : Nat} (nx : Nat) {c : List zF} (o : Int) (t : Nat) (hI : J pc = some (.if_icmp .lt o, [t])) (hn : Nat.add pc 3 = nx) (h1 : T.any (fun u => Nat.beq u t) = true) (hc : zCd i T nx c) : zCd i T pc (zq_ic_lt t :: c) := by
  subst hn
  exact ⟨.if_icmp .lt o, [t], (hJ pc).trans hI, (rfl), (zMem1 h1), hc⟩
theorem zc_if_ge {i : Nat} {T : List Nat} {J : Nat → Option pE} (hJ : ∀ pc, pI i pc = J pc) {pc : Nat} (nx : Nat) {c : List zF} (o : Int) (t : Nat) (hI : J pc = some (.ifCond .ge o, [t])) (hn : Nat.add pc 3 = nx) (h1 : T.any (fun u => Nat.beq u t) = true) (hc : zCd i T nx c) : zCd i T pc (zq_if_ge t :: c) := by
  subst hn
  exact ⟨.ifCond .ge o, [t], (hJ pc).trans hI, (rfl), (zMem1 h1), hc⟩
theorem zc_ic_ge {i : Nat} {T : List Nat} {J : Nat → Option pE} (hJ : ∀ pc, pI i pc = J pc) {pc : Nat} (nx : Nat) {c : List zF} (o : Int) (t : Nat) (hI : J pc = some (.if_icmp .ge o, [t])) (hn : Nat.add pc 3 = nx) (h1 : T.any (fun u => Nat.beq u t) = true) (hc : zCd i T nx c) : zCd i T pc (zq_ic_ge t :: c) := by
  subst hn
  exact ⟨.if_icmp .ge o, [t], (hJ pc).trans hI, (rfl), (zMem1 h1), hc⟩
theorem zc_if_gt {i : Nat} {T : List Nat} {J : Nat → Option pE} (hJ : ∀ pc, pI i pc = J pc) {pc : Nat} (nx : Nat) {c : List zF} (o : Int) (t : Nat) (hI : J pc = some (.ifCond .gt o, [t])) (hn : Nat.add pc 3 = nx) (h1 : T.any (fun u => Nat.beq u t) = true) (hc : zCd i T nx c) : zCd i T pc (zq_if_gt t :: c) := by
  subst hn
  exact ⟨.ifCond .gt o, [t], (hJ pc).trans hI, (rfl), (zMem1 h1), hc⟩
theorem zc_ic_gt {i : Nat} {T : List Nat} {J : Nat → Option pE} (hJ : ∀ pc, pI i pc = J pc) {pc : Nat} (nx : Nat) {c : List zF} (o : Int) (t : Nat) (hI : J pc = some (.if_icmp .gt o, [t])) (hn : Nat.add pc 3 = nx) (h1 : T.any (fun u => Nat.beq u t) = true) (hc : zCd i T nx c) : zCd i T pc (zq_ic_gt t :: c) := by
  subst hn
  exact ⟨.if_icmp .gt o, [t], (hJ pc).trans hI, (rfl), (zMem1 h1), hc⟩
theorem zc_if_le {i : Nat} {T : List Nat} {J : Nat → Option pE} (hJ : ∀ pc, pI i pc = J pc) {pc : Nat} (nx : Nat) {c : List zF} (o : Int) (t : Nat) (hI : J pc = some (.ifCond .le o, [t])) (hn : Nat.add pc 3 = nx) (h1 : T.any (fun u => Nat.beq u t) = true) (hc : zCd i T nx c) : zCd i T pc (zq_if_le t :: c) := by
  subst hn
  exact ⟨.ifCond .le o, [t], (hJ pc).trans hI, (rfl), (zMem1 h1), hc⟩
theorem zc_ic_le {i : Nat} {T : List Nat} {J : Nat → Option pE} (hJ : ∀ pc, pI i pc = J pc) {pc : Nat} (nx : Nat) {c : List zF} (o : Int) (t : Nat) (hI : J pc = some (.if_icmp .le o, [t])) (hn : Nat.add pc 3 = nx) (h1 : T.any (fun u => Nat.beq u t) = true) (hc : zCd i T nx c) : zCd i T pc (zq_ic_le t :: c) := by
  subst hn
  exact ⟨.if_icmp .le o, [t], (hJ pc).trans hI, (rfl), (zMem1 h1), hc⟩
theorem zc_goto {i : Nat} {T : List Nat} {J : Nat → Option pE} (hJ : ∀ pc, pI i pc = J pc) {pc : Nat} (nx : Nat) {c : List zF} (o : Int) (t : Nat) (hI : J pc = some (.goto o, [t])) (hn : Nat.add pc 1 = nx) (h1 : T.any (fun u => Nat.beq u t) = true) (hc : zCd i T nx c) : zCd i T pc (zq_goto t :: c) := by
  subst hn
  exact ⟨.goto o, [t], (hJ pc).trans hI, (rfl), (zMem1 h1), hc⟩
theorem zc_tab {i : Nat} {T : List Nat} {J : Nat → Option pE} (hJ : ∀ pc, pI i pc = J pc) {pc : Nat} (nx : Nat) {c : List zF} (a lo hi : Int) (os : Array Int) (d : Nat) (ts : List Nat) (l0 : Nat) (hI : J pc = some (.tableswitch a lo hi os, d :: ts)) (hn : Nat.add pc 1 = nx) (h1 : (d :: ts).all (fun t => T.any (fun u => Nat.beq u t)) = true) (h2 : zIok lo hi ts.length = true) (h3 : lo.toNat = l0) (hc : zCd i T nx c) : zCd i T pc (zq_tab l0 ts d :: c) := by
  subst hn
  exact ⟨.tableswitch a lo hi os, d :: ts, (hJ pc).trans hI, (by rw [← h3]; exact zGt h2), (zMems h1), hc⟩
theorem zc_ldc {i : Nat} {T : List Nat} {J : Nat → Option pE} (hJ : ∀ pc, pI i pc = J pc) {pc : Nat} (nx : Nat) {c : List zF} (i0 v e : Nat) (hI : J pc = some (.ldc i0, [v, e])) (hn : Nat.add pc 2 = nx) (h1 : Nat.ble v 4294967295 = true) (hc : zCd i T nx c) : zCd i T pc (zq_k v :: c) := by
  subst hn
  exact ⟨.ldc i0, [v, e], (hJ pc).trans hI, (zGt h1), (fun t h => by cases h), hc⟩
theorem zc_ldc_w {i : Nat} {T : List Nat} {J : Nat → Option pE} (hJ : ∀ pc, pI i pc = J pc) {pc : Nat} (nx : Nat) {c : List zF} (i0 v e : Nat) (hI : J pc = some (.ldc_w i0, [v, e])) (hn : Nat.add pc 3 = nx) (h1 : Nat.ble v 4294967295 = true) (hc : zCd i T nx c) : zCd i T pc (zq_k v :: c) := by
  subst hn
  exact ⟨.ldc_w i0, [v, e], (hJ pc).trans hI, (zGt h1), (fun t h => by cases h), hc⟩
theorem zc_ldc2_w {i : Nat} {T : List Nat} {J : Nat → Option pE} (hJ : ∀ pc, pI i pc = J pc) {pc : Nat} (nx : Nat) {c : List zF} (i0 v e : Nat) (hI : J pc = some (.ldc2_w i0, [v, e])) (hn : Nat.add pc 3 = nx) (h1 : Nat.ble v 18446744073709551615 = true) (hc : zCd i T nx c) : zCd i T pc (zq_kl v :: c) := by
  subst hn
  exact ⟨.ldc2_w i0, [v, e], (hJ pc).trans hI, (zGt h1), (fun t h => by cases h), hc⟩
theorem zc_getf {i : Nat} {T : List Nat} {J : Nat → Option pE} (hJ : ∀ pc, pI i pc = J pc) {pc : Nat} (nx : Nat) {c : List zF} (i0 ci k e : Nat) {x : zF} (hI : J pc = some (.getfield i0, [ci, k, e])) (hn : Nat.add pc 3 = nx) (hx : zq_getf ci k = x) (hc : zCd i T nx c) : zCd i T pc (x :: c) := by
  subst hn
  exact ⟨.getfield i0, [ci, k, e], (hJ pc).trans hI, (hx.symm), (fun t h => by cases h), hc⟩
theorem zc_putf {i : Nat} {T : List Nat} {J : Nat → Option pE} (hJ : ∀ pc, pI i pc = J pc) {pc : Nat} (nx : Nat) {c : List zF} (i0 ci k e ty : Nat) (hI : J pc = some (.putfield i0, [ci, k, e])) (hn : Nat.add pc 3 = nx) (h1 : zTy (pTf ci k) = ty) (hc : zCd i T nx c) : zCd i T pc (zq_putf ci k ty :: c) := by
  subst hn
  exact ⟨.putfield i0, [ci, k, e], (hJ pc).trans hI, (by rw [← h1]; rfl), (fun t h => by cases h), hc⟩
theorem zc_invokevirtual3 {i : Nat} {T : List Nat} {J : Nat → Option pE} (hJ : ∀ pc, pI i pc = J pc) {pc : Nat} (nx : Nat) {c : List zF} (i0 j n e ci mx : Nat) (hI : J pc = some (.invokevirtual i0, [3, j, n, e, ci, mx])) (hn : Nat.add pc 3 = nx) (h1 : (Nat.ble j 356 && Nat.ble mx 999) = true) (hc : zCd i T nx c) : zCd i T pc (zq_calli j n ci mx :: c) := by
  subst hn
  exact ⟨.invokevirtual i0, [3, j, n, e, ci, mx], (hJ pc).trans hI, (zGt h1), (fun t h => by cases h), hc⟩
theorem zc_invokevirtual5 {i : Nat} {T : List Nat} {J : Nat → Option pE} (hJ : ∀ pc, pI i pc = J pc) {pc : Nat} (nx : Nat) {c : List zF} (i0 j n e ci mx : Nat) (hI : J pc = some (.invokevirtual i0, [5, j, n, e, ci, mx])) (hn : Nat.add pc 3 = nx) (h1 : (Nat.ble j 356 && Nat.ble mx 999) = true) (hc : zCd i T nx c) : zCd i T pc (zq_calli j n ci mx :: c) := by
  subst hn
  exact ⟨.invokevirtual i0, [5, j, n, e, ci, mx], (hJ pc).trans hI, (zGt h1), (fun t h => by cases h), hc⟩
theorem zc_invokevirtual1 {i : Nat} {T : List Nat} {J : Nat → Option pE} (hJ : ∀ pc, pI i pc = J pc) {pc : Nat} (nx : Nat) {c : List zF} (i0 j n e ci mx : Nat) (hI : J pc = some (.invokevirtual i0, [1, j, n, e, ci, mx])) (hn : Nat.add pc 3 = nx) (h2 : (Nat.beq j 191 || (Nat.beq j 192 || (Nat.beq j 193 || (Nat.beq j 196 || (Nat.beq j 208 || (Nat.beq j 212 || (Nat.beq j 213 || Nat.beq j 217))))))) = false) (h1 : (Nat.ble j 356 && Nat.ble mx 999) = true) (hc : zCd i T nx c) : zCd i T pc (zq_calli j n ci mx :: c) := by
  subst hn
  exact ⟨.invokevirtual i0, [1, j, n, e, ci, mx], (hJ pc).trans hI, (zNv_c h2 h1), (fun t h => by cases h), hc⟩
theorem zc_invokevirtual2 {i : Nat} {T : List Nat} {J : Nat → Option pE} (hJ : ∀ pc, pI i pc = J pc) {pc : Nat} (nx : Nat) {c : List zF} (i0 j n e ci mx : Nat) (hI : J pc = some (.invokevirtual i0, [2, j, n, e, ci, mx])) (hn : Nat.add pc 3 = nx) (h2 : (Nat.beq j 356 || Nat.beq j 355 || Nat.beq j 187) = false) (h1 : (Nat.ble j 356 && Nat.ble mx 999) = true) (hc : zCd i T nx c) : zCd i T pc (zq_calls j n mx :: c) := by
  subst hn
  exact ⟨.invokevirtual i0, [2, j, n, e, ci, mx], (hJ pc).trans hI, (zNt_c h2 h1), (fun t h => by cases h), hc⟩
theorem zc_invokevirtual4 {i : Nat} {T : List Nat} {J : Nat → Option pE} (hJ : ∀ pc, pI i pc = J pc) {pc : Nat} (nx : Nat) {c : List zF} (i0 j n e ci mx : Nat) (hI : J pc = some (.invokevirtual i0, [4, j, n, e, ci, mx])) (hn : Nat.add pc 3 = nx) (h2 : (Nat.beq j 356 || Nat.beq j 355 || Nat.beq j 187) = false) (h1 : (Nat.ble j 356 && Nat.ble mx 999) = true) (hc : zCd i T nx c) : zCd i T pc (zq_calls j n mx :: c) := by
  subst hn
  exact ⟨.invokevirtual i0, [4, j, n, e, ci, mx], (hJ pc).trans hI, (zNt_c h2 h1), (fun t h => by cases h), hc⟩
theorem zc_invokevirtual0 {i : Nat} {T : List Nat} {J : Nat → Option pE} (hJ : ∀ pc, pI i pc = J pc) {pc : Nat} (nx : Nat) {c : List zF} (i0 j n e ci mx : Nat) (hI : J pc = some (.invokevirtual i0, [0, j, n, e, ci, mx])) (hn : Nat.add pc 3 = nx) (hc : zCd i T nx c) : zCd i T pc (zq_call0 :: c) := by
  subst hn
  exact ⟨.invokevirtual i0, [0, j, n, e, ci, mx], (hJ pc).trans hI, (rfl), (fun t h => by cases h), hc⟩
theorem zc_invokevirtual7 {i : Nat} {T : List Nat} {J : Nat → Option pE} (hJ : ∀ pc, pI i pc = J pc) {pc : Nat} (nx : Nat) {c : List zF} (i0 j n e ci mx : Nat) (hI : J pc = some (.invokevirtual i0, [7, j, n, e, ci, mx])) (hn : Nat.add pc 3 = nx) (hc : zCd i T nx c) : zCd i T pc (zq_copy :: c) := by
  subst hn
  exact ⟨.invokevirtual i0, [7, j, n, e, ci, mx], (hJ pc).trans hI, (rfl), (fun t h => by cases h), hc⟩
theorem zc_invokespecial3 {i : Nat} {T : List Nat} {J : Nat → Option pE} (hJ : ∀ pc, pI i pc = J pc) {pc : Nat} (nx : Nat) {c : List zF} (i0 j n e ci mx : Nat) (hI : J pc = some (.invokespecial i0, [3, j, n, e, ci, mx])) (hn : Nat.add pc 3 = nx) (h1 : (Nat.ble j 356 && Nat.ble mx 999) = true) (hc : zCd i T nx c) : zCd i T pc (zq_calli j n ci mx :: c) := by
  subst hn
  exact ⟨.invokespecial i0, [3, j, n, e, ci, mx], (hJ pc).trans hI, (zGt h1), (fun t h => by cases h), hc⟩
theorem zc_invokespecial5 {i : Nat} {T : List Nat} {J : Nat → Option pE} (hJ : ∀ pc, pI i pc = J pc) {pc : Nat} (nx : Nat) {c : List zF} (i0 j n e ci mx : Nat) (hI : J pc = some (.invokespecial i0, [5, j, n, e, ci, mx])) (hn : Nat.add pc 3 = nx) (h1 : (Nat.ble j 356 && Nat.ble mx 999) = true) (hc : zCd i T nx c) : zCd i T pc (zq_calli j n ci mx :: c) := by
  subst hn
  exact ⟨.invokespecial i0, [5, j, n, e, ci, mx], (hJ pc).trans hI, (zGt h1), (fun t h => by cases h), hc⟩
theorem zc_invokespecial1 {i : Nat} {T : List Nat} {J : Nat → Option pE} (hJ : ∀ pc, pI i pc = J pc) {pc : Nat} (nx : Nat) {c : List zF} (i0 j n e ci mx : Nat) (hI : J pc = some (.invokespecial i0, [1, j, n, e, ci, mx])) (hn : Nat.add pc 3 = nx) (h2 : (Nat.beq j 191 || (Nat.beq j 192 || (Nat.beq j 193 || (Nat.beq j 196 || (Nat.beq j 208 || (Nat.beq j 212 || (Nat.beq j 213 || Nat.beq j 217))))))) = false) (h1 : (Nat.ble j 356 && Nat.ble mx 999) = true) (hc : zCd i T nx c) : zCd i T pc (zq_calli j n ci mx :: c) := by
  subst hn
  exact ⟨.invokespecial i0, [1, j, n, e, ci, mx], (hJ pc).trans hI, (zNv_c h2 h1), (fun t h => by cases h), hc⟩
theorem zc_invokespecial2 {i : Nat} {T : List Nat} {J : Nat → Option pE} (hJ : ∀ pc, pI i pc = J pc) {pc : Nat} (nx : Nat) {c : List zF} (i0 j n e ci mx : Nat) (hI : J pc = some (.invokespecial i0, [2, j, n, e, ci, mx])) (hn : Nat.add pc 3 = nx) (h2 : (Nat.beq j 356 || Nat.beq j 355 || Nat.beq j 187) = false) (h1 : (Nat.ble j 356 && Nat.ble mx 999) = true) (hc : zCd i T nx c) : zCd i T pc (zq_calls j n mx :: c) := by
  subst hn
  exact ⟨.invokespecial i0, [2, j, n, e, ci, mx], (hJ pc).trans hI, (zNt_c h2 h1), (fun t h => by cases h), hc⟩
theorem zc_invokespecial4 {i : Nat} {T : List Nat} {J : Nat → Option pE} (hJ : ∀ pc, pI i pc = J pc) {pc : Nat} (nx : Nat) {c : List zF} (i0 j n e ci mx : Nat) (hI : J pc = some (.invokespecial i0, [4, j, n, e, ci, mx])) (hn : Nat.add pc 3 = nx) (h2 : (Nat.beq j 356 || Nat.beq j 355 || Nat.beq j 187) = false) (h1 : (Nat.ble j 356 && Nat.ble mx 999) = true) (hc : zCd i T nx c) : zCd i T pc (zq_calls j n mx :: c) := by
  subst hn
  exact ⟨.invokespecial i0, [4, j, n, e, ci, mx], (hJ pc).trans hI, (zNt_c h2 h1), (fun t h => by cases h), hc⟩
theorem zc_invokespecial0 {i : Nat} {T : List Nat} {J : Nat → Option pE} (hJ : ∀ pc, pI i pc = J pc) {pc : Nat} (nx : Nat) {c : List zF} (i0 j n e ci mx : Nat) (hI : J pc = some (.invokespecial i0, [0, j, n, e, ci, mx])) (hn : Nat.add pc 3 = nx) (hc : zCd i T nx c) : zCd i T pc (zq_call0 :: c) := by
  subst hn
  exact ⟨.invokespecial i0, [0, j, n, e, ci, mx], (hJ pc).trans hI, (rfl), (fun t h => by cases h), hc⟩
theorem zc_invokespecial7 {i : Nat} {T : List Nat} {J : Nat → Option pE} (hJ : ∀ pc, pI i pc = J pc) {pc : Nat} (nx : Nat) {c : List zF} (i0 j n e ci mx : Nat) (hI : J pc = some (.invokespecial i0, [7, j, n, e, ci, mx])) (hn : Nat.add pc 3 = nx) (hc : zCd i T nx c) : zCd i T pc (zq_copy :: c) := by
  subst hn
  exact ⟨.invokespecial i0, [7, j, n, e, ci, mx], (hJ pc).trans hI, (rfl), (fun t h => by cases h), hc⟩
theorem zc_invokestatic3 {i : Nat} {T : List Nat} {J : Nat → Option pE} (hJ : ∀ pc, pI i pc = J pc) {pc : Nat} (nx : Nat) {c : List zF} (i0 j n e ci mx : Nat) (hI : J pc = some (.invokestatic i0, [3, j, n, e, ci, mx])) (hn : Nat.add pc 3 = nx) (h1 : (Nat.ble j 356 && Nat.ble mx 999) = true) (hc : zCd i T nx c) : zCd i T pc (zq_calli j n ci mx :: c) := by
  subst hn
  exact ⟨.invokestatic i0, [3, j, n, e, ci, mx], (hJ pc).trans hI, (zGt h1), (fun t h => by cases h), hc⟩
theorem zc_invokestatic5 {i : Nat} {T : List Nat} {J : Nat → Option pE} (hJ : ∀ pc, pI i pc = J pc) {pc : Nat} (nx : Nat) {c : List zF} (i0 j n e ci mx : Nat) (hI : J pc = some (.invokestatic i0, [5, j, n, e, ci, mx])) (hn : Nat.add pc 3 = nx) (h1 : (Nat.ble j 356 && Nat.ble mx 999) = true) (hc : zCd i T nx c) : zCd i T pc (zq_calli j n ci mx :: c) := by
  subst hn
  exact ⟨.invokestatic i0, [5, j, n, e, ci, mx], (hJ pc).trans hI, (zGt h1), (fun t h => by cases h), hc⟩
theorem zc_invokestatic1 {i : Nat} {T : List Nat} {J : Nat → Option pE} (hJ : ∀ pc, pI i pc = J pc) {pc : Nat} (nx : Nat) {c : List zF} (i0 j n e ci mx : Nat) (hI : J pc = some (.invokestatic i0, [1, j, n, e, ci, mx])) (hn : Nat.add pc 3 = nx) (h2 : (Nat.beq j 191 || (Nat.beq j 192 || (Nat.beq j 193 || (Nat.beq j 196 || (Nat.beq j 208 || (Nat.beq j 212 || (Nat.beq j 213 || Nat.beq j 217))))))) = false) (h1 : (Nat.ble j 356 && Nat.ble mx 999) = true) (hc : zCd i T nx c) : zCd i T pc (zq_calli j n ci mx :: c) := by
  subst hn
  exact ⟨.invokestatic i0, [1, j, n, e, ci, mx], (hJ pc).trans hI, (zNv_c h2 h1), (fun t h => by cases h), hc⟩
theorem zc_invokestatic2 {i : Nat} {T : List Nat} {J : Nat → Option pE} (hJ : ∀ pc, pI i pc = J pc) {pc : Nat} (nx : Nat) {c : List zF} (i0 j n e ci mx : Nat) (hI : J pc = some (.invokestatic i0, [2, j, n, e, ci, mx])) (hn : Nat.add pc 3 = nx) (h2 : (Nat.beq j 356 || Nat.beq j 355 || Nat.beq j 187) = false) (h1 : (Nat.ble j 356 && Nat.ble mx 999) = true) (hc : zCd i T nx c) : zCd i T pc (zq_calls j n mx :: c) := by
  subst hn
  exact ⟨.invokestatic i0, [2, j, n, e, ci, mx], (hJ pc).trans hI, (zNt_c h2 h1), (fun t h => by cases h), hc⟩
theorem zc_invokestatic4 {i : Nat} {T : List Nat} {J : Nat → Option pE} (hJ : ∀ pc, pI i pc = J pc) {pc : Nat} (nx : Nat) {c : List zF} (i0 j n e ci mx : Nat) (hI : J pc = some (.invokestatic i0, [4, j, n, e, ci, mx])) (hn : Nat.add pc 3 = nx) (h2 : (Nat.beq j 356 || Nat.beq j 355 || Nat.beq j 187) = false) (h1 : (Nat.ble j 356 && Nat.ble mx 999) = true) (hc : zCd i T nx c) : zCd i T pc (zq_calls j n mx :: c) := by
  subst hn
  exact ⟨.invokestatic i0, [4, j, n, e, ci, mx], (hJ pc).trans hI, (zNt_c h2 h1), (fun t h => by cases h), hc⟩
theorem zc_invokestatic0 {i : Nat} {T : List Nat} {J : Nat → Option pE} (hJ : ∀ pc, pI i pc = J pc) {pc : Nat} (nx : Nat) {c : List zF} (i0 j n e ci mx : Nat) (hI : J pc = some (.invokestatic i0, [0, j, n, e, ci, mx])) (hn : Nat.add pc 3 = nx) (hc : zCd i T nx c) : zCd i T pc (zq_call0 :: c) := by
  subst hn
  exact ⟨.invokestatic i0, [0, j, n, e, ci, mx], (hJ pc).trans hI, (rfl), (fun t h => by cases h), hc⟩
theorem zc_invokestatic7 {i : Nat} {T : List Nat} {J : Nat → Option pE} (hJ : ∀ pc, pI i pc = J pc) {pc : Nat} (nx : Nat) {c : List zF} (i0 j n e ci mx : Nat) (hI : J pc = some (.invokestatic i0, [7, j, n, e, ci, mx])) (hn : Nat.add pc 3 = nx) (hc : zCd i T nx c) : zCd i T pc (zq_copy :: c) := by
  subst hn
  exact ⟨.invokestatic i0, [7, j, n, e, ci, mx], (hJ pc).trans hI, (rfl), (fun t h => by cases h), hc⟩
theorem zc_ireturn0 {i : Nat} {T : List Nat} {J : Nat → Option pE} (hJ : ∀ pc, pI i pc = J pc) {pc : Nat} (nx : Nat) {c : List zF}  (hI : J pc = some (.ireturn, [0])) (hn : Nat.add pc 1 = nx) (hc : zCd i T nx c) : zCd i T pc (zq_iret 0 :: c) := by
  subst hn
  exact ⟨.ireturn, [0], (hJ pc).trans hI, (rfl), (fun t h => by cases h), hc⟩
theorem zc_ireturn1 {i : Nat} {T : List Nat} {J : Nat → Option pE} (hJ : ∀ pc, pI i pc = J pc) {pc : Nat} (nx : Nat) {c : List zF}  (hI : J pc = some (.ireturn, [1])) (hn : Nat.add pc 1 = nx) (hc : zCd i T nx c) : zCd i T pc (zq_iret 1 :: c) := by
  subst hn
  exact ⟨.ireturn, [1], (hJ pc).trans hI, (rfl), (fun t h => by cases h), hc⟩
theorem zc_any {i : Nat} {T : List Nat} {J : Nat → Option pE} (hJ : ∀ pc, pI i pc = J pc) {pc : Nat} (nx : Nat) {c : List zF} (ins : Instr) (dt : List Nat) (hI : J pc = some (ins, dt)) (hn : Nat.add pc (zLen ins) = nx) (x : zF) (hx : x = zCp ins dt) (ht : (zTg ins dt).all (fun t => T.any (fun u => Nat.beq u t)) = true) (hc : zCd i T nx c) : zCd i T pc (x :: c) := by
  subst hn
  exact ⟨ins, dt, (hJ pc).trans hI, hx, zMems ht, hc⟩
theorem zf_ild_0 : zq_ild 0 = zq_ildg zG0 := rfl
theorem zf_ald_0 : zq_ald 0 = zq_aldg zG0 := rfl
theorem zf_lld_0 : zq_lld 0 = zq_lldg zG0 := rfl
theorem zf_getf_0 (ci : Nat) : zq_getf ci 0 = zq_getfg ci zG0 := rfl
theorem zf_ild_1 : zq_ild 1 = zq_ildg zG1 := rfl
theorem zf_ald_1 : zq_ald 1 = zq_aldg zG1 := rfl
theorem zf_lld_1 : zq_lld 1 = zq_lldg zG1 := rfl
theorem zf_getf_1 (ci : Nat) : zq_getf ci 1 = zq_getfg ci zG1 := rfl
theorem zf_ild_2 : zq_ild 2 = zq_ildg zG2 := rfl
theorem zf_ald_2 : zq_ald 2 = zq_aldg zG2 := rfl
theorem zf_lld_2 : zq_lld 2 = zq_lldg zG2 := rfl
theorem zf_getf_2 (ci : Nat) : zq_getf ci 2 = zq_getfg ci zG2 := rfl
theorem zf_ild_3 : zq_ild 3 = zq_ildg zG3 := rfl
theorem zf_ald_3 : zq_ald 3 = zq_aldg zG3 := rfl
theorem zf_lld_3 : zq_lld 3 = zq_lldg zG3 := rfl
theorem zf_getf_3 (ci : Nat) : zq_getf ci 3 = zq_getfg ci zG3 := rfl
theorem zf_ild_4 : zq_ild 4 = zq_ildg zG4 := rfl
theorem zf_ald_4 : zq_ald 4 = zq_aldg zG4 := rfl
theorem zf_lld_4 : zq_lld 4 = zq_lldg zG4 := rfl
theorem zf_getf_4 (ci : Nat) : zq_getf ci 4 = zq_getfg ci zG4 := rfl
theorem zf_ild_5 : zq_ild 5 = zq_ildg zG5 := rfl
theorem zf_ald_5 : zq_ald 5 = zq_aldg zG5 := rfl
theorem zf_lld_5 : zq_lld 5 = zq_lldg zG5 := rfl
theorem zf_getf_5 (ci : Nat) : zq_getf ci 5 = zq_getfg ci zG5 := rfl
theorem zf_ild_6 : zq_ild 6 = zq_ildg zG6 := rfl
theorem zf_ald_6 : zq_ald 6 = zq_aldg zG6 := rfl
theorem zf_lld_6 : zq_lld 6 = zq_lldg zG6 := rfl
theorem zf_getf_6 (ci : Nat) : zq_getf ci 6 = zq_getfg ci zG6 := rfl
theorem zf_ild_7 : zq_ild 7 = zq_ildg zG7 := rfl
theorem zf_ald_7 : zq_ald 7 = zq_aldg zG7 := rfl
theorem zf_lld_7 : zq_lld 7 = zq_lldg zG7 := rfl
theorem zf_getf_7 (ci : Nat) : zq_getf ci 7 = zq_getfg ci zG7 := rfl
theorem zf_ild_8 : zq_ild 8 = zq_ildg zG8 := rfl
theorem zf_ald_8 : zq_ald 8 = zq_aldg zG8 := rfl
theorem zf_lld_8 : zq_lld 8 = zq_lldg zG8 := rfl
theorem zf_getf_8 (ci : Nat) : zq_getf ci 8 = zq_getfg ci zG8 := rfl
theorem zf_ild_9 : zq_ild 9 = zq_ildg zG9 := rfl
theorem zf_ald_9 : zq_ald 9 = zq_aldg zG9 := rfl
theorem zf_lld_9 : zq_lld 9 = zq_lldg zG9 := rfl
theorem zf_getf_9 (ci : Nat) : zq_getf ci 9 = zq_getfg ci zG9 := rfl
theorem zf_ild_10 : zq_ild 10 = zq_ildg zG10 := rfl
theorem zf_ald_10 : zq_ald 10 = zq_aldg zG10 := rfl
theorem zf_lld_10 : zq_lld 10 = zq_lldg zG10 := rfl
theorem zf_getf_10 (ci : Nat) : zq_getf ci 10 = zq_getfg ci zG10 := rfl
theorem zf_ild_11 : zq_ild 11 = zq_ildg zG11 := rfl
theorem zf_ald_11 : zq_ald 11 = zq_aldg zG11 := rfl
theorem zf_lld_11 : zq_lld 11 = zq_lldg zG11 := rfl
theorem zf_getf_11 (ci : Nat) : zq_getf ci 11 = zq_getfg ci zG11 := rfl
theorem zf_ild_12 : zq_ild 12 = zq_ildg zG12 := rfl
theorem zf_ald_12 : zq_ald 12 = zq_aldg zG12 := rfl
theorem zf_lld_12 : zq_lld 12 = zq_lldg zG12 := rfl
theorem zf_getf_12 (ci : Nat) : zq_getf ci 12 = zq_getfg ci zG12 := rfl
theorem zf_ild_13 : zq_ild 13 = zq_ildg zG13 := rfl
theorem zf_ald_13 : zq_ald 13 = zq_aldg zG13 := rfl
theorem zf_lld_13 : zq_lld 13 = zq_lldg zG13 := rfl
theorem zf_getf_13 (ci : Nat) : zq_getf ci 13 = zq_getfg ci zG13 := rfl
theorem zf_ild_14 : zq_ild 14 = zq_ildg zG14 := rfl
theorem zf_ald_14 : zq_ald 14 = zq_aldg zG14 := rfl
theorem zf_lld_14 : zq_lld 14 = zq_lldg zG14 := rfl
theorem zf_getf_14 (ci : Nat) : zq_getf ci 14 = zq_getfg ci zG14 := rfl
theorem zf_ild_15 : zq_ild 15 = zq_ildg zG15 := rfl
theorem zf_ald_15 : zq_ald 15 = zq_aldg zG15 := rfl
theorem zf_lld_15 : zq_lld 15 = zq_lldg zG15 := rfl
theorem zf_getf_15 (ci : Nat) : zq_getf ci 15 = zq_getfg ci zG15 := rfl
theorem zf_ild_16 : zq_ild 16 = zq_ildg zG16 := rfl
theorem zf_ald_16 : zq_ald 16 = zq_aldg zG16 := rfl
theorem zf_lld_16 : zq_lld 16 = zq_lldg zG16 := rfl
theorem zf_getf_16 (ci : Nat) : zq_getf ci 16 = zq_getfg ci zG16 := rfl
theorem zf_ild_17 : zq_ild 17 = zq_ildg zG17 := rfl
theorem zf_ald_17 : zq_ald 17 = zq_aldg zG17 := rfl
theorem zf_lld_17 : zq_lld 17 = zq_lldg zG17 := rfl
theorem zf_getf_17 (ci : Nat) : zq_getf ci 17 = zq_getfg ci zG17 := rfl
theorem zf_ild_18 : zq_ild 18 = zq_ildg zG18 := rfl
theorem zf_ald_18 : zq_ald 18 = zq_aldg zG18 := rfl
theorem zf_lld_18 : zq_lld 18 = zq_lldg zG18 := rfl
theorem zf_getf_18 (ci : Nat) : zq_getf ci 18 = zq_getfg ci zG18 := rfl
theorem zf_ild_19 : zq_ild 19 = zq_ildg zG19 := rfl
theorem zf_ald_19 : zq_ald 19 = zq_aldg zG19 := rfl
theorem zf_lld_19 : zq_lld 19 = zq_lldg zG19 := rfl
theorem zf_getf_19 (ci : Nat) : zq_getf ci 19 = zq_getfg ci zG19 := rfl
theorem zf_ist_0 : zq_ist 0 = zq_istg zE0 := rfl
theorem zf_ast_0 : zq_ast 0 = zq_astg zE0 := rfl
theorem zf_inc_0 (c : Nat) : zq_inc 0 c = zq_incg zG0 zE0 c := rfl
theorem zf_ist_1 : zq_ist 1 = zq_istg zE1 := rfl
theorem zf_ast_1 : zq_ast 1 = zq_astg zE1 := rfl
theorem zf_inc_1 (c : Nat) : zq_inc 1 c = zq_incg zG1 zE1 c := rfl
theorem zf_ist_2 : zq_ist 2 = zq_istg zE2 := rfl
theorem zf_ast_2 : zq_ast 2 = zq_astg zE2 := rfl
theorem zf_inc_2 (c : Nat) : zq_inc 2 c = zq_incg zG2 zE2 c := rfl
theorem zf_ist_3 : zq_ist 3 = zq_istg zE3 := rfl
theorem zf_ast_3 : zq_ast 3 = zq_astg zE3 := rfl
theorem zf_inc_3 (c : Nat) : zq_inc 3 c = zq_incg zG3 zE3 c := rfl
theorem zf_ist_4 : zq_ist 4 = zq_istg zE4 := rfl
theorem zf_ast_4 : zq_ast 4 = zq_astg zE4 := rfl
theorem zf_inc_4 (c : Nat) : zq_inc 4 c = zq_incg zG4 zE4 c := rfl
theorem zf_ist_5 : zq_ist 5 = zq_istg zE5 := rfl
theorem zf_ast_5 : zq_ast 5 = zq_astg zE5 := rfl
theorem zf_inc_5 (c : Nat) : zq_inc 5 c = zq_incg zG5 zE5 c := rfl
theorem zf_ist_6 : zq_ist 6 = zq_istg zE6 := rfl
theorem zf_ast_6 : zq_ast 6 = zq_astg zE6 := rfl
theorem zf_inc_6 (c : Nat) : zq_inc 6 c = zq_incg zG6 zE6 c := rfl
theorem zf_ist_7 : zq_ist 7 = zq_istg zE7 := rfl
theorem zf_ast_7 : zq_ast 7 = zq_astg zE7 := rfl
theorem zf_inc_7 (c : Nat) : zq_inc 7 c = zq_incg zG7 zE7 c := rfl
theorem zf_ist_8 : zq_ist 8 = zq_istg zE8 := rfl
theorem zf_ast_8 : zq_ast 8 = zq_astg zE8 := rfl
theorem zf_inc_8 (c : Nat) : zq_inc 8 c = zq_incg zG8 zE8 c := rfl
theorem zf_ist_9 : zq_ist 9 = zq_istg zE9 := rfl
theorem zf_ast_9 : zq_ast 9 = zq_astg zE9 := rfl
theorem zf_inc_9 (c : Nat) : zq_inc 9 c = zq_incg zG9 zE9 c := rfl
theorem zf_ist_10 : zq_ist 10 = zq_istg zE10 := rfl
theorem zf_ast_10 : zq_ast 10 = zq_astg zE10 := rfl
theorem zf_inc_10 (c : Nat) : zq_inc 10 c = zq_incg zG10 zE10 c := rfl
theorem zf_ist_11 : zq_ist 11 = zq_istg zE11 := rfl
theorem zf_ast_11 : zq_ast 11 = zq_astg zE11 := rfl
theorem zf_inc_11 (c : Nat) : zq_inc 11 c = zq_incg zG11 zE11 c := rfl
theorem zf_ist_12 : zq_ist 12 = zq_istg zE12 := rfl
theorem zf_ast_12 : zq_ast 12 = zq_astg zE12 := rfl
theorem zf_inc_12 (c : Nat) : zq_inc 12 c = zq_incg zG12 zE12 c := rfl
theorem zf_ist_13 : zq_ist 13 = zq_istg zE13 := rfl
theorem zf_ast_13 : zq_ast 13 = zq_astg zE13 := rfl
theorem zf_inc_13 (c : Nat) : zq_inc 13 c = zq_incg zG13 zE13 c := rfl
/-- SquareMesh$Hull.<init> -/
theorem xj_0 : ∀ pc, pI 0 pc = pJ_0 pc := fun _ => rfl
noncomputable def xb_0_0 : List zF := [zq_aldg zG0, zq_call0, zq_aldg zG0, zq_k 40, zq_newa 0, zq_putf 0 0 2, zq_vret]
noncomputable def xf_0_0 : zE → zKn := fun E => zq_aldg zG0 (zq_call0 (zq_aldg zG0 (zq_k 40 (zq_newa 0 (zq_putf 0 0 2 (zq_vret (zNil) E) E) E) E) E) E) E
theorem xe_0_0 : xf_0_0 = zEx xb_0_0 := by
  unfold xf_0_0 xb_0_0
  rfl
theorem xc_0_0 : zCd 0 [0] 0 xb_0_0 := zc_aload_n xj_0 1 0 rfl rfl zf_ald_0 (zc_invokespecial0 xj_0 4 3 0 0 17 0 0 rfl rfl (zc_aload_n xj_0 5 0 rfl rfl zf_ald_0 (zc_bipush xj_0 7 40 40 rfl rfl rfl (zc_any xj_0 9 (.newarray .int) [0] rfl rfl (zq_newa 0) rfl rfl (zc_putf xj_0 12 9 0 0 80 2 rfl rfl rfl (zc_return_ xj_0 13 rfl rfl (trivial)))))))
noncomputable def xm_0 : Lean.RArray (zE → zKn) := .leaf xf_0_0
theorem xa_0 : zCdAll 0 [0] xm_0 := zAll2_ok (P := fun t => ∃ c, zCd 0 [0] t c ∧ xm_0.get t = zEx c) ⟨⟨_, xc_0_0, xe_0_0⟩, trivial⟩
/-- SquareMesh$Hull.wrap -/
theorem xj_1 : ∀ pc, pI 1 pc = pJ_1 pc := fun _ => rfl
noncomputable def xb_1_8 : List zF := [zq_vret]
noncomputable def xf_1_8 : zE → zKn := fun E => zq_vret (zNil) E
theorem xe_1_8 : xf_1_8 = zEx xb_1_8 := by
  unfold xf_1_8 xb_1_8
  rfl
theorem xc_1_8 : zCd 1 [0, 9, 32, 38, 39, 45, 50, 96, 102] 102 xb_1_8 := zc_return_ xj_1 103 rfl rfl (trivial)
noncomputable def xb_1_7 : List zF := [zq_incg zG4 zE4 1, zq_goto 50]
noncomputable def xf_1_7 : zE → zKn := fun E => zq_incg zG4 zE4 1 (zq_goto 50 (zNil) E) E
theorem xe_1_7 : xf_1_7 = zEx xb_1_7 := by
  unfold xf_1_7 xb_1_7
  rfl
theorem xc_1_7 : zCd 1 [0, 9, 32, 38, 39, 45, 50, 96, 102] 96 xb_1_7 := zc_iinc xj_1 99 4 1 1 rfl rfl rfl (zf_inc_4 _) (zc_goto xj_1 100 (-49) 50 rfl rfl rfl (trivial))
noncomputable def xb_1_6 : List zF := [zq_ildg zG4, zq_k 40, zq_ic_ge 102, zq_ildg zG3, zq_k 4294967295, zq_ic_eq 102, zq_aldg zG0, zq_getfg 0 zG0, zq_aldg zG0, zq_getfg 0 zG1, zq_ildg zG3, zq_iast, zq_aldg zG0, zq_dup, zq_getfg 0 zG1, zq_k 1, zq_add, zq_putf 0 1 0, zq_aldg zG1, zq_ildg zG3, zq_calls 2 2 4, zq_istg zE3, zq_ildg zG3, zq_ildg zG2, zq_ic_ne 96, zq_goto 102]
noncomputable def xf_1_6 : zE → zKn := fun E => zq_ildg zG4 (zq_k 40 (zq_ic_ge 102 (zq_ildg zG3 (zq_k 4294967295 (zq_ic_eq 102 (zq_aldg zG0 (zq_getfg 0 zG0 (zq_aldg zG0 (zq_getfg 0 zG1 (zq_ildg zG3 (zq_iast (zq_aldg zG0 (zq_dup (zq_getfg 0 zG1 (zq_k 1 (zq_add (zq_putf 0 1 0 (zq_aldg zG1 (zq_ildg zG3 (zq_calls 2 2 4 (zq_istg zE3 (zq_ildg zG3 (zq_ildg zG2 (zq_ic_ne 96 (zq_goto 102 (zNil) E) E) E) E) E) E) E) E) E) E) E) E) E) E) E) E) E) E) E) E) E) E) E) E) E) E
theorem xe_1_6 : xf_1_6 = zEx xb_1_6 := by
  unfold xf_1_6 xb_1_6
  rfl
theorem xc_1_6 : zCd 1 [0, 9, 32, 38, 39, 45, 50, 96, 102] 50 xb_1_6 := zc_iload xj_1 52 4 rfl rfl zf_ild_4 (zc_bipush xj_1 54 40 40 rfl rfl rfl (zc_ic_ge xj_1 57 48 102 rfl rfl rfl (zc_iload_n xj_1 58 3 rfl rfl zf_ild_3 (zc_iconst xj_1 59 (-1) 4294967295 rfl rfl rfl (zc_ic_eq xj_1 62 43 102 rfl rfl rfl (zc_aload_n xj_1 63 0 rfl rfl zf_ald_0 (zc_getf xj_1 66 9 0 0 80 rfl rfl (zf_getf_0 _) (zc_aload_n xj_1 67 0 rfl rfl zf_ald_0 (zc_getf xj_1 70 15 0 1 82 rfl rfl (zf_getf_1 _) (zc_iload_n xj_1 71 3 rfl rfl zf_ild_3 (zc_iastore xj_1 72 rfl rfl (zc_aload_n xj_1 73 0 rfl rfl zf_ald_0 (zc_dup xj_1 74 rfl rfl (zc_getf xj_1 77 15 0 1 82 rfl rfl (zf_getf_1 _) (zc_iconst xj_1 78 1 1 rfl rfl rfl (zc_iadd xj_1 79 rfl rfl (zc_putf xj_1 82 15 0 1 82 0 rfl rfl rfl (zc_aload_n xj_1 83 1 rfl rfl zf_ald_1 (zc_iload_n xj_1 84 3 rfl rfl zf_ild_3 (zc_invokestatic2 xj_1 87 29 2 2 239 0 4 rfl rfl rfl rfl (zc_istore_n xj_1 88 3 rfl rfl zf_ist_3 (zc_iload_n xj_1 89 3 rfl rfl zf_ild_3 (zc_iload_n xj_1 90 2 rfl rfl zf_ild_2 (zc_ic_ne xj_1 93 6 96 rfl rfl rfl (zc_goto xj_1 94 9 102 rfl rfl rfl (trivial))))))))))))))))))))))))))
noncomputable def xb_1_5 : List zF := zq_ildg zG2 :: zq_istg zE3 :: zq_k 0 :: zq_istg zE4 :: xb_1_6
noncomputable def xf_1_5 : zE → zKn := fun E => zq_ildg zG2 (zq_istg zE3 (zq_k 0 (zq_istg zE4 (xf_1_6 E) E) E) E) E
theorem xe_1_5 : xf_1_5 = zEx xb_1_5 := by
  unfold xf_1_5 xb_1_5
  rw [xe_1_6]
  rfl
theorem xc_1_5 : zCd 1 [0, 9, 32, 38, 39, 45, 50, 96, 102] 45 xb_1_5 := zc_iload_n xj_1 46 2 rfl rfl zf_ild_2 (zc_istore_n xj_1 47 3 rfl rfl zf_ist_3 (zc_iconst xj_1 48 0 0 rfl rfl rfl (zc_istore xj_1 50 4 rfl rfl zf_ist_4 (xc_1_6))))
noncomputable def xb_1_4 : List zF := [zq_incg zG3 zE3 1, zq_goto 9]
noncomputable def xf_1_4 : zE → zKn := fun E => zq_incg zG3 zE3 1 (zq_goto 9 (zNil) E) E
theorem xe_1_4 : xf_1_4 = zEx xb_1_4 := by
  unfold xf_1_4 xb_1_4
  rfl
theorem xc_1_4 : zCd 1 [0, 9, 32, 38, 39, 45, 50, 96, 102] 39 xb_1_4 := zc_iinc xj_1 42 3 1 1 rfl rfl rfl (zf_inc_3 _) (zc_goto xj_1 43 (-33) 9 rfl rfl rfl (trivial))
noncomputable def xb_1_3 : List zF := zq_istg zE2 :: xb_1_4
noncomputable def xf_1_3 : zE → zKn := fun E => zq_istg zE2 (xf_1_4 E) E
theorem xe_1_3 : xf_1_3 = zEx xb_1_3 := by
  unfold xf_1_3 xb_1_3
  rw [xe_1_4]
  rfl
theorem xc_1_3 : zCd 1 [0, 9, 32, 38, 39, 45, 50, 96, 102] 38 xb_1_3 := zc_istore_n xj_1 39 2 rfl rfl zf_ist_2 (xc_1_4)
noncomputable def xb_1_2 : List zF := zq_aldg zG1 :: zq_ildg zG2 :: zq_ildg zG3 :: zq_calli 98 2 5 3 :: xb_1_3
noncomputable def xf_1_2 : zE → zKn := fun E => zq_aldg zG1 (zq_ildg zG2 (zq_ildg zG3 (zq_calli 98 2 5 3 (xf_1_3 E) E) E) E) E
theorem xe_1_2 : xf_1_2 = zEx xb_1_2 := by
  unfold xf_1_2 xb_1_2
  rw [xe_1_3]
  rfl
theorem xc_1_2 : zCd 1 [0, 9, 32, 38, 39, 45, 50, 96, 102] 32 xb_1_2 := zc_aload_n xj_1 33 1 rfl rfl zf_ald_1 (zc_iload_n xj_1 34 2 rfl rfl zf_ild_2 (zc_iload_n xj_1 35 3 rfl rfl zf_ild_3 (zc_invokevirtual1 xj_1 38 25 98 2 238 5 3 rfl rfl rfl rfl (xc_1_3))))
noncomputable def xb_1_1 : List zF := [zq_ildg zG3, zq_k 40, zq_ic_ge 45, zq_aldg zG1, zq_ildg zG3, zq_calli 82 1 5 2, zq_if_eq 39, zq_ildg zG2, zq_k 4294967295, zq_ic_ne 32, zq_ildg zG3, zq_goto 38]
noncomputable def xf_1_1 : zE → zKn := fun E => zq_ildg zG3 (zq_k 40 (zq_ic_ge 45 (zq_aldg zG1 (zq_ildg zG3 (zq_calli 82 1 5 2 (zq_if_eq 39 (zq_ildg zG2 (zq_k 4294967295 (zq_ic_ne 32 (zq_ildg zG3 (zq_goto 38 (zNil) E) E) E) E) E) E) E) E) E) E) E) E
theorem xe_1_1 : xf_1_1 = zEx xb_1_1 := by
  unfold xf_1_1 xb_1_1
  rfl
theorem xc_1_1 : zCd 1 [0, 9, 32, 38, 39, 45, 50, 96, 102] 9 xb_1_1 := zc_iload_n xj_1 10 3 rfl rfl zf_ild_3 (zc_bipush xj_1 12 40 40 rfl rfl rfl (zc_ic_ge xj_1 15 33 45 rfl rfl rfl (zc_aload_n xj_1 16 1 rfl rfl zf_ald_1 (zc_iload_n xj_1 17 3 rfl rfl zf_ild_3 (zc_invokevirtual1 xj_1 20 19 82 1 237 5 2 rfl rfl rfl rfl (zc_if_eq xj_1 23 19 39 rfl rfl rfl (zc_iload_n xj_1 24 2 rfl rfl zf_ild_2 (zc_iconst xj_1 25 (-1) 4294967295 rfl rfl rfl (zc_ic_ne xj_1 28 7 32 rfl rfl rfl (zc_iload_n xj_1 29 3 rfl rfl zf_ild_3 (zc_goto xj_1 30 9 38 rfl rfl rfl (trivial))))))))))))
noncomputable def xb_1_0 : List zF := zq_aldg zG0 :: zq_k 0 :: zq_putf 0 1 0 :: zq_k 4294967295 :: zq_istg zE2 :: zq_k 4 :: zq_istg zE3 :: xb_1_1
noncomputable def xf_1_0 : zE → zKn := fun E => zq_aldg zG0 (zq_k 0 (zq_putf 0 1 0 (zq_k 4294967295 (zq_istg zE2 (zq_k 4 (zq_istg zE3 (xf_1_1 E) E) E) E) E) E) E) E
theorem xe_1_0 : xf_1_0 = zEx xb_1_0 := by
  unfold xf_1_0 xb_1_0
  rw [xe_1_1]
  rfl
theorem xc_1_0 : zCd 1 [0, 9, 32, 38, 39, 45, 50, 96, 102] 0 xb_1_0 := zc_aload_n xj_1 1 0 rfl rfl zf_ald_0 (zc_iconst xj_1 2 0 0 rfl rfl rfl (zc_putf xj_1 5 15 0 1 82 0 rfl rfl rfl (zc_iconst xj_1 6 (-1) 4294967295 rfl rfl rfl (zc_istore_n xj_1 7 2 rfl rfl zf_ist_2 (zc_iconst xj_1 8 4 4 rfl rfl rfl (zc_istore_n xj_1 9 3 rfl rfl zf_ist_3 (xc_1_1)))))))
noncomputable def xm_1 : Lean.RArray (zE → zKn) := .branch 39 (.branch 32 (.branch 9 (.leaf xf_1_0) (.leaf xf_1_1)) (.branch 38 (.leaf xf_1_2) (.leaf xf_1_3))) (.branch 50 (.branch 45 (.leaf xf_1_4) (.leaf xf_1_5)) (.branch 96 (.leaf xf_1_6) (.branch 102 (.leaf xf_1_7) (.leaf xf_1_8))))
theorem xa_1 : zCdAll 1 [0, 9, 32, 38, 39, 45, 50, 96, 102] xm_1 := zAll2_ok (P := fun t => ∃ c, zCd 1 [0, 9, 32, 38, 39, 45, 50, 96, 102] t c ∧ xm_1.get t = zEx c) ⟨⟨_, xc_1_0, xe_1_0⟩, ⟨_, xc_1_1, xe_1_1⟩, ⟨_, xc_1_2, xe_1_2⟩, ⟨_, xc_1_3, xe_1_3⟩, ⟨_, xc_1_4, xe_1_4⟩, ⟨_, xc_1_5, xe_1_5⟩, ⟨_, xc_1_6, xe_1_6⟩, ⟨_, xc_1_7, xe_1_7⟩, ⟨_, xc_1_8, xe_1_8⟩, trivial⟩
/-- SquareMesh$Hull.nextOnHull -/
theorem xj_2 : ∀ pc, pI 2 pc = pJ_2 pc := fun _ => rfl
noncomputable def xb_2_4 : List zF := [zq_ildg zG2, zq_iret 0]
noncomputable def xf_2_4 : zE → zKn := fun E => zq_ildg zG2 (zq_iret 0 (zNil) E) E
theorem xe_2_4 : xf_2_4 = zEx xb_2_4 := by
  unfold xf_2_4 xb_2_4
  rfl
theorem xc_2_4 : zCd 2 [0, 4, 38, 40, 46] 46 xb_2_4 := zc_iload_n xj_2 47 2 rfl rfl zf_ild_2 (zc_ireturn0 xj_2 48 rfl rfl (trivial))
noncomputable def xb_2_3 : List zF := [zq_incg zG3 zE3 1, zq_goto 4]
noncomputable def xf_2_3 : zE → zKn := fun E => zq_incg zG3 zE3 1 (zq_goto 4 (zNil) E) E
theorem xe_2_3 : xf_2_3 = zEx xb_2_3 := by
  unfold xf_2_3 xb_2_3
  rfl
theorem xc_2_3 : zCd 2 [0, 4, 38, 40, 46] 40 xb_2_3 := zc_iinc xj_2 43 3 1 1 rfl rfl rfl (zf_inc_3 _) (zc_goto xj_2 44 (-39) 4 rfl rfl rfl (trivial))
noncomputable def xb_2_2 : List zF := zq_ildg zG3 :: zq_istg zE2 :: xb_2_3
noncomputable def xf_2_2 : zE → zKn := fun E => zq_ildg zG3 (zq_istg zE2 (xf_2_3 E) E) E
theorem xe_2_2 : xf_2_2 = zEx xb_2_2 := by
  unfold xf_2_2 xb_2_2
  rw [xe_2_3]
  rfl
theorem xc_2_2 : zCd 2 [0, 4, 38, 40, 46] 38 xb_2_2 := zc_iload_n xj_2 39 3 rfl rfl zf_ild_3 (zc_istore_n xj_2 40 2 rfl rfl zf_ist_2 (xc_2_3))
noncomputable def xb_2_1 : List zF := zq_ildg zG3 :: zq_k 40 :: zq_ic_ge 46 :: zq_aldg zG0 :: zq_ildg zG3 :: zq_calli 82 1 5 2 :: zq_if_eq 40 :: zq_ildg zG3 :: zq_ildg zG1 :: zq_ic_eq 40 :: zq_ildg zG2 :: zq_k 4294967295 :: zq_ic_eq 38 :: zq_aldg zG0 :: zq_ildg zG1 :: zq_ildg zG2 :: zq_ildg zG3 :: zq_calls 3 4 5 :: zq_if_eq 40 :: xb_2_2
noncomputable def xf_2_1 : zE → zKn := fun E => zq_ildg zG3 (zq_k 40 (zq_ic_ge 46 (zq_aldg zG0 (zq_ildg zG3 (zq_calli 82 1 5 2 (zq_if_eq 40 (zq_ildg zG3 (zq_ildg zG1 (zq_ic_eq 40 (zq_ildg zG2 (zq_k 4294967295 (zq_ic_eq 38 (zq_aldg zG0 (zq_ildg zG1 (zq_ildg zG2 (zq_ildg zG3 (zq_calls 3 4 5 (zq_if_eq 40 (xf_2_2 E) E) E) E) E) E) E) E) E) E) E) E) E) E) E) E) E) E) E) E
theorem xe_2_1 : xf_2_1 = zEx xb_2_1 := by
  unfold xf_2_1 xb_2_1
  rw [xe_2_2]
  rfl
theorem xc_2_1 : zCd 2 [0, 4, 38, 40, 46] 4 xb_2_1 := zc_iload_n xj_2 5 3 rfl rfl zf_ild_3 (zc_bipush xj_2 7 40 40 rfl rfl rfl (zc_ic_ge xj_2 10 39 46 rfl rfl rfl (zc_aload_n xj_2 11 0 rfl rfl zf_ald_0 (zc_iload_n xj_2 12 3 rfl rfl zf_ild_3 (zc_invokevirtual1 xj_2 15 19 82 1 237 5 2 rfl rfl rfl rfl (zc_if_eq xj_2 18 25 40 rfl rfl rfl (zc_iload_n xj_2 19 3 rfl rfl zf_ild_3 (zc_iload_n xj_2 20 1 rfl rfl zf_ild_1 (zc_ic_eq xj_2 23 20 40 rfl rfl rfl (zc_iload_n xj_2 24 2 rfl rfl zf_ild_2 (zc_iconst xj_2 25 (-1) 4294967295 rfl rfl rfl (zc_ic_eq xj_2 28 13 38 rfl rfl rfl (zc_aload_n xj_2 29 0 rfl rfl zf_ald_0 (zc_iload_n xj_2 30 1 rfl rfl zf_ild_1 (zc_iload_n xj_2 31 2 rfl rfl zf_ild_2 (zc_iload_n xj_2 32 3 rfl rfl zf_ild_3 (zc_invokestatic2 xj_2 35 33 3 4 240 0 5 rfl rfl rfl rfl (zc_if_eq xj_2 38 5 40 rfl rfl rfl (xc_2_2)))))))))))))))))))
noncomputable def xb_2_0 : List zF := zq_k 4294967295 :: zq_istg zE2 :: zq_k 4 :: zq_istg zE3 :: xb_2_1
noncomputable def xf_2_0 : zE → zKn := fun E => zq_k 4294967295 (zq_istg zE2 (zq_k 4 (zq_istg zE3 (xf_2_1 E) E) E) E) E
theorem xe_2_0 : xf_2_0 = zEx xb_2_0 := by
  unfold xf_2_0 xb_2_0
  rw [xe_2_1]
  rfl
theorem xc_2_0 : zCd 2 [0, 4, 38, 40, 46] 0 xb_2_0 := zc_iconst xj_2 1 (-1) 4294967295 rfl rfl rfl (zc_istore_n xj_2 2 2 rfl rfl zf_ist_2 (zc_iconst xj_2 3 4 4 rfl rfl rfl (zc_istore_n xj_2 4 3 rfl rfl zf_ist_3 (xc_2_1))))
noncomputable def xm_2 : Lean.RArray (zE → zKn) := .branch 38 (.branch 4 (.leaf xf_2_0) (.leaf xf_2_1)) (.branch 40 (.leaf xf_2_2) (.branch 46 (.leaf xf_2_3) (.leaf xf_2_4)))
theorem xa_2 : zCdAll 2 [0, 4, 38, 40, 46] xm_2 := zAll2_ok (P := fun t => ∃ c, zCd 2 [0, 4, 38, 40, 46] t c ∧ xm_2.get t = zEx c) ⟨⟨_, xc_2_0, xe_2_0⟩, ⟨_, xc_2_1, xe_2_1⟩, ⟨_, xc_2_2, xe_2_2⟩, ⟨_, xc_2_3, xe_2_3⟩, ⟨_, xc_2_4, xe_2_4⟩, trivial⟩
/-- SquareMesh$Hull.isOuter -/
theorem xj_3 : ∀ pc, pI 3 pc = pJ_3 pc := fun _ => rfl
noncomputable def xb_3_3 : List zF := [zq_iret 1]
noncomputable def xf_3_3 : zE → zKn := fun E => zq_iret 1 (zNil) E
theorem xe_3_3 : xf_3_3 = zEx xb_3_3 := by
  unfold xf_3_3 xb_3_3
  rfl
theorem xc_3_3 : zCd 3 [0, 34, 38, 39] 39 xb_3_3 := zc_ireturn1 xj_3 40 rfl rfl (trivial)
noncomputable def xb_3_2 : List zF := zq_k 0 :: xb_3_3
noncomputable def xf_3_2 : zE → zKn := fun E => zq_k 0 (xf_3_3 E) E
theorem xe_3_2 : xf_3_2 = zEx xb_3_2 := by
  unfold xf_3_2 xb_3_2
  rw [xe_3_3]
  rfl
theorem xc_3_2 : zCd 3 [0, 34, 38, 39] 38 xb_3_2 := zc_iconst xj_3 39 0 0 rfl rfl rfl (xc_3_3)
noncomputable def xb_3_1 : List zF := [zq_k 1, zq_goto 39]
noncomputable def xf_3_1 : zE → zKn := fun E => zq_k 1 (zq_goto 39 (zNil) E) E
theorem xe_3_1 : xf_3_1 = zEx xb_3_1 := by
  unfold xf_3_1 xb_3_1
  rfl
theorem xc_3_1 : zCd 3 [0, 34, 38, 39] 34 xb_3_1 := zc_iconst xj_3 35 1 1 rfl rfl rfl (zc_goto xj_3 36 4 39 rfl rfl rfl (trivial))
noncomputable def xb_3_0 : List zF := zq_aldg zG0 :: zq_ildg zG1 :: zq_ildg zG2 :: zq_ildg zG3 :: zq_calli 96 3 5 4 :: zq_istg zE4 :: zq_ildg zG4 :: zq_if_lt 34 :: zq_ildg zG4 :: zq_if_ne 38 :: zq_aldg zG0 :: zq_ildg zG1 :: zq_ildg zG3 :: zq_calli 97 2 5 5 :: zq_aldg zG0 :: zq_ildg zG1 :: zq_ildg zG2 :: zq_calli 97 2 5 5 :: zq_ic_le 38 :: xb_3_1
noncomputable def xf_3_0 : zE → zKn := fun E => zq_aldg zG0 (zq_ildg zG1 (zq_ildg zG2 (zq_ildg zG3 (zq_calli 96 3 5 4 (zq_istg zE4 (zq_ildg zG4 (zq_if_lt 34 (zq_ildg zG4 (zq_if_ne 38 (zq_aldg zG0 (zq_ildg zG1 (zq_ildg zG3 (zq_calli 97 2 5 5 (zq_aldg zG0 (zq_ildg zG1 (zq_ildg zG2 (zq_calli 97 2 5 5 (zq_ic_le 38 (xf_3_1 E) E) E) E) E) E) E) E) E) E) E) E) E) E) E) E) E) E) E) E
theorem xe_3_0 : xf_3_0 = zEx xb_3_0 := by
  unfold xf_3_0 xb_3_0
  rw [xe_3_1]
  rfl
theorem xc_3_0 : zCd 3 [0, 34, 38, 39] 0 xb_3_0 := zc_aload_n xj_3 1 0 rfl rfl zf_ald_0 (zc_iload_n xj_3 2 1 rfl rfl zf_ild_1 (zc_iload_n xj_3 3 2 rfl rfl zf_ild_2 (zc_iload_n xj_3 4 3 rfl rfl zf_ild_3 (zc_invokevirtual1 xj_3 7 37 96 3 241 5 4 rfl rfl rfl rfl (zc_istore xj_3 9 4 rfl rfl zf_ist_4 (zc_iload xj_3 11 4 rfl rfl zf_ild_4 (zc_if_lt xj_3 14 23 34 rfl rfl rfl (zc_iload xj_3 16 4 rfl rfl zf_ild_4 (zc_if_ne xj_3 19 22 38 rfl rfl rfl (zc_aload_n xj_3 20 0 rfl rfl zf_ald_0 (zc_iload_n xj_3 21 1 rfl rfl zf_ild_1 (zc_iload_n xj_3 22 3 rfl rfl zf_ild_3 (zc_invokevirtual1 xj_3 25 41 97 2 242 5 5 rfl rfl rfl rfl (zc_aload_n xj_3 26 0 rfl rfl zf_ald_0 (zc_iload_n xj_3 27 1 rfl rfl zf_ild_1 (zc_iload_n xj_3 28 2 rfl rfl zf_ild_2 (zc_invokevirtual1 xj_3 31 41 97 2 242 5 5 rfl rfl rfl rfl (zc_ic_le xj_3 34 7 38 rfl rfl rfl (xc_3_1)))))))))))))))))))
noncomputable def xm_3 : Lean.RArray (zE → zKn) := .branch 38 (.branch 34 (.leaf xf_3_0) (.leaf xf_3_1)) (.branch 39 (.leaf xf_3_2) (.leaf xf_3_3))
theorem xa_3 : zCdAll 3 [0, 34, 38, 39] xm_3 := zAll2_ok (P := fun t => ∃ c, zCd 3 [0, 34, 38, 39] t c ∧ xm_3.get t = zEx c) ⟨⟨_, xc_3_0, xe_3_0⟩, ⟨_, xc_3_1, xe_3_1⟩, ⟨_, xc_3_2, xe_3_2⟩, ⟨_, xc_3_3, xe_3_3⟩, trivial⟩
/-- SquareMesh$Mesh.<init> -/
theorem xj_4 : ∀ pc, pI 4 pc = pJ_4 pc := fun _ => rfl
noncomputable def xb_4_0 : List zF := [zq_aldg zG0, zq_call0, zq_aldg zG0, zq_newo 5 [zVd, zVd, zVd, zVd, zVd, zVd, .inr (.inr (.inl 0)), .inl 0, .inl 0], zq_dup, zq_calli 78 0 5 1, zq_putf 1 0 2, zq_aldg zG0, zq_k 1600, zq_newa 0, zq_putf 1 1 2, zq_aldg zG0, zq_k 1600, zq_newa 0, zq_putf 1 2 2, zq_aldg zG0, zq_k 222, zq_newa 0, zq_putf 1 3 2, zq_aldg zG0, zq_k 226, zq_newa 0, zq_putf 1 4 2, zq_aldg zG0, zq_k 40, zq_newa 1, zq_putf 1 5 2, zq_aldg zG0, zq_k 40, zq_newa 0, zq_putf 1 6 2, zq_aldg zG0, zq_k 40, zq_newa 1, zq_putf 1 9 2, zq_aldg zG0, zq_k 40, zq_newa 1, zq_putf 1 10 2, zq_aldg zG0, zq_k 800, zq_newa 0, zq_putf 1 11 2, zq_vret]
noncomputable def xf_4_0 : zE → zKn := fun E => zq_aldg zG0 (zq_call0 (zq_aldg zG0 (zq_newo 5 [zVd, zVd, zVd, zVd, zVd, zVd, .inr (.inr (.inl 0)), .inl 0, .inl 0] (zq_dup (zq_calli 78 0 5 1 (zq_putf 1 0 2 (zq_aldg zG0 (zq_k 1600 (zq_newa 0 (zq_putf 1 1 2 (zq_aldg zG0 (zq_k 1600 (zq_newa 0 (zq_putf 1 2 2 (zq_aldg zG0 (zq_k 222 (zq_newa 0 (zq_putf 1 3 2 (zq_aldg zG0 (zq_k 226 (zq_newa 0 (zq_putf 1 4 2 (zq_aldg zG0 (zq_k 40 (zq_newa 1 (zq_putf 1 5 2 (zq_aldg zG0 (zq_k 40 (zq_newa 0 (zq_putf 1 6 2 (zq_aldg zG0 (zq_k 40 (zq_newa 1 (zq_putf 1 9 2 (zq_aldg zG0 (zq_k 40 (zq_newa 1 (zq_putf 1 10 2 (zq_aldg zG0 (zq_k 800 (zq_newa 0 (zq_putf 1 11 2 (zq_vret (zNil) E) E) E) E) E) E) E) E) E) E) E) E) E) E) E) E) E) E) E) E) E) E) E) E) E) E) E) E) E) E) E) E) E) E) E) E) E) E) E) E) E) E) E) E
set_option maxRecDepth 100000 in
theorem xe_4_0 : xf_4_0 = zEx xb_4_0 := by
  unfold xf_4_0 xb_4_0
  rfl
theorem xc_4_0 : zCd 4 [0] 0 xb_4_0 := zc_aload_n xj_4 1 0 rfl rfl zf_ald_0 (zc_invokespecial0 xj_4 4 3 0 0 3 0 0 rfl rfl (zc_aload_n xj_4 5 0 rfl rfl zf_ald_0 (zc_any xj_4 8 (.new 9) [5, 9, 2] rfl rfl (zq_newo 5 [zVd, zVd, zVd, zVd, zVd, zVd, .inr (.inr (.inl 0)), .inl 0, .inl 0]) rfl rfl (zc_dup xj_4 9 rfl rfl (zc_invokespecial5 xj_4 12 11 78 0 4 5 1 rfl rfl rfl (zc_putf xj_4 15 12 1 0 24 2 rfl rfl rfl (zc_aload_n xj_4 16 0 rfl rfl zf_ald_0 (zc_sipush xj_4 19 1600 1600 rfl rfl rfl (zc_any xj_4 21 (.newarray .int) [0] rfl rfl (zq_newa 0) rfl rfl (zc_putf xj_4 24 18 1 1 29 2 rfl rfl rfl (zc_aload_n xj_4 25 0 rfl rfl zf_ald_0 (zc_sipush xj_4 28 1600 1600 rfl rfl rfl (zc_any xj_4 30 (.newarray .int) [0] rfl rfl (zq_newa 0) rfl rfl (zc_putf xj_4 33 22 1 2 31 2 rfl rfl rfl (zc_aload_n xj_4 34 0 rfl rfl zf_ald_0 (zc_sipush xj_4 37 222 222 rfl rfl rfl (zc_any xj_4 39 (.newarray .int) [0] rfl rfl (zq_newa 0) rfl rfl (zc_putf xj_4 42 25 1 3 33 2 rfl rfl rfl (zc_aload_n xj_4 43 0 rfl rfl zf_ald_0 (zc_sipush xj_4 46 226 226 rfl rfl rfl (zc_any xj_4 48 (.newarray .int) [0] rfl rfl (zq_newa 0) rfl rfl (zc_putf xj_4 51 28 1 4 35 2 rfl rfl rfl (zc_aload_n xj_4 52 0 rfl rfl zf_ald_0 (zc_bipush xj_4 54 40 40 rfl rfl rfl (zc_any xj_4 56 (.newarray .long) [1] rfl rfl (zq_newa 1) rfl rfl (zc_putf xj_4 59 31 1 5 39 2 rfl rfl rfl (zc_aload_n xj_4 60 0 rfl rfl zf_ald_0 (zc_bipush xj_4 62 40 40 rfl rfl rfl (zc_any xj_4 64 (.newarray .int) [0] rfl rfl (zq_newa 0) rfl rfl (zc_putf xj_4 67 35 1 6 42 2 rfl rfl rfl (zc_aload_n xj_4 68 0 rfl rfl zf_ald_0 (zc_bipush xj_4 70 40 40 rfl rfl rfl (zc_any xj_4 72 (.newarray .long) [1] rfl rfl (zq_newa 1) rfl rfl (zc_putf xj_4 75 38 1 9 52 2 rfl rfl rfl (zc_aload_n xj_4 76 0 rfl rfl zf_ald_0 (zc_bipush xj_4 78 40 40 rfl rfl rfl (zc_any xj_4 80 (.newarray .long) [1] rfl rfl (zq_newa 1) rfl rfl (zc_putf xj_4 83 41 1 10 53 2 rfl rfl rfl (zc_aload_n xj_4 84 0 rfl rfl zf_ald_0 (zc_sipush xj_4 87 800 800 rfl rfl rfl (zc_any xj_4 89 (.newarray .int) [0] rfl rfl (zq_newa 0) rfl rfl (zc_putf xj_4 92 44 1 11 54 2 rfl rfl rfl (zc_return_ xj_4 93 rfl rfl (trivial))))))))))))))))))))))))))))))))))))))))))))
noncomputable def xm_4 : Lean.RArray (zE → zKn) := .leaf xf_4_0
theorem xa_4 : zCdAll 4 [0] xm_4 := zAll2_ok (P := fun t => ∃ c, zCd 4 [0] t c ∧ xm_4.get t = zEx c) ⟨⟨_, xc_4_0, xe_4_0⟩, trivial⟩
/-- SquareMesh$Mesh.start -/
theorem xj_5 : ∀ pc, pI 5 pc = pJ_5 pc := fun _ => rfl
noncomputable def xb_5_2 : List zF := [zq_aldg zG0, zq_k 0, zq_k 1, zq_k 2, zq_calli 19 3 1 4, zq_aldg zG0, zq_k 0, zq_k 2, zq_k 3, zq_calli 19 3 1 4, zq_aldg zG0, zq_calli 27 0 1 2, zq_aldg zG0, zq_calli 31 0 1 4, zq_vret]
noncomputable def xf_5_2 : zE → zKn := fun E => zq_aldg zG0 (zq_k 0 (zq_k 1 (zq_k 2 (zq_calli 19 3 1 4 (zq_aldg zG0 (zq_k 0 (zq_k 2 (zq_k 3 (zq_calli 19 3 1 4 (zq_aldg zG0 (zq_calli 27 0 1 2 (zq_aldg zG0 (zq_calli 31 0 1 4 (zq_vret (zNil) E) E) E) E) E) E) E) E) E) E) E) E) E) E) E
theorem xe_5_2 : xf_5_2 = zEx xb_5_2 := by
  unfold xf_5_2 xb_5_2
  rfl
theorem xc_5_2 : zCd 5 [0, 76, 100] 100 xb_5_2 := zc_aload_n xj_5 101 0 rfl rfl zf_ald_0 (zc_iconst xj_5 102 0 0 rfl rfl rfl (zc_iconst xj_5 103 1 1 rfl rfl rfl (zc_iconst xj_5 104 2 2 rfl rfl rfl (zc_invokevirtual1 xj_5 107 65 19 3 22 1 4 rfl rfl rfl rfl (zc_aload_n xj_5 108 0 rfl rfl zf_ald_0 (zc_iconst xj_5 109 0 0 rfl rfl rfl (zc_iconst xj_5 110 2 2 rfl rfl rfl (zc_iconst xj_5 111 3 3 rfl rfl rfl (zc_invokevirtual1 xj_5 114 65 19 3 22 1 4 rfl rfl rfl rfl (zc_aload_n xj_5 115 0 rfl rfl zf_ald_0 (zc_invokevirtual1 xj_5 118 68 27 0 23 1 2 rfl rfl rfl rfl (zc_aload_n xj_5 119 0 rfl rfl zf_ald_0 (zc_invokevirtual1 xj_5 122 71 31 0 24 1 4 rfl rfl rfl rfl (zc_return_ xj_5 123 rfl rfl (trivial)))))))))))))))
noncomputable def xb_5_1 : List zF := [zq_ildg zG1, zq_k 4, zq_ic_ge 100, zq_aldg zG0, zq_getfg 1 zG0, zq_ildg zG1, zq_ildg zG1, zq_k 1, zq_add, zq_k 4, zq_rem, zq_calli 92 2 5 3, zq_incg zG1 zE1 1, zq_goto 76]
noncomputable def xf_5_1 : zE → zKn := fun E => zq_ildg zG1 (zq_k 4 (zq_ic_ge 100 (zq_aldg zG0 (zq_getfg 1 zG0 (zq_ildg zG1 (zq_ildg zG1 (zq_k 1 (zq_add (zq_k 4 (zq_rem (zq_calli 92 2 5 3 (zq_incg zG1 zE1 1 (zq_goto 76 (zNil) E) E) E) E) E) E) E) E) E) E) E) E) E) E
theorem xe_5_1 : xf_5_1 = zEx xb_5_1 := by
  unfold xf_5_1 xb_5_1
  rfl
theorem xc_5_1 : zCd 5 [0, 76, 100] 76 xb_5_1 := zc_iload_n xj_5 77 1 rfl rfl zf_ild_1 (zc_iconst xj_5 78 4 4 rfl rfl rfl (zc_ic_ge xj_5 81 22 100 rfl rfl rfl (zc_aload_n xj_5 82 0 rfl rfl zf_ald_0 (zc_getf xj_5 85 12 1 0 24 rfl rfl (zf_getf_0 _) (zc_iload_n xj_5 86 1 rfl rfl zf_ild_1 (zc_iload_n xj_5 87 1 rfl rfl zf_ild_1 (zc_iconst xj_5 88 1 1 rfl rfl rfl (zc_iadd xj_5 89 rfl rfl (zc_iconst xj_5 90 4 4 rfl rfl rfl (zc_irem xj_5 91 rfl rfl (zc_invokevirtual1 xj_5 94 61 92 2 21 5 3 rfl rfl rfl rfl (zc_iinc xj_5 97 1 1 1 rfl rfl rfl (zf_inc_1 _) (zc_goto xj_5 98 (-21) 76 rfl rfl rfl (trivial))))))))))))))
noncomputable def xb_5_0 : List zF := zq_aldg zG0 :: zq_getfg 1 zG0 :: zq_k 0 :: zq_k 4294966296 :: zq_k 4294966296 :: zq_calli 84 3 5 4 :: zq_aldg zG0 :: zq_getfg 1 zG0 :: zq_k 1 :: zq_k 1000 :: zq_k 4294966296 :: zq_calli 84 3 5 4 :: zq_aldg zG0 :: zq_getfg 1 zG0 :: zq_k 2 :: zq_k 1000 :: zq_k 1000 :: zq_calli 84 3 5 4 :: zq_aldg zG0 :: zq_getfg 1 zG0 :: zq_k 3 :: zq_k 4294966296 :: zq_k 1000 :: zq_calli 84 3 5 4 :: zq_aldg zG0 :: zq_getfg 1 zG0 :: zq_k 313 :: zq_putf 5 8 0 :: zq_aldg zG0 :: zq_getfg 1 zG1 :: zq_k 4294967295 :: zq_fill :: zq_k 0 :: zq_istg zE1 :: xb_5_1
noncomputable def xf_5_0 : zE → zKn := fun E => zq_aldg zG0 (zq_getfg 1 zG0 (zq_k 0 (zq_k 4294966296 (zq_k 4294966296 (zq_calli 84 3 5 4 (zq_aldg zG0 (zq_getfg 1 zG0 (zq_k 1 (zq_k 1000 (zq_k 4294966296 (zq_calli 84 3 5 4 (zq_aldg zG0 (zq_getfg 1 zG0 (zq_k 2 (zq_k 1000 (zq_k 1000 (zq_calli 84 3 5 4 (zq_aldg zG0 (zq_getfg 1 zG0 (zq_k 3 (zq_k 4294966296 (zq_k 1000 (zq_calli 84 3 5 4 (zq_aldg zG0 (zq_getfg 1 zG0 (zq_k 313 (zq_putf 5 8 0 (zq_aldg zG0 (zq_getfg 1 zG1 (zq_k 4294967295 (zq_fill (zq_k 0 (zq_istg zE1 (xf_5_1 E) E) E) E) E) E) E) E) E) E) E) E) E) E) E) E) E) E) E) E) E) E) E) E) E) E) E) E) E) E) E) E) E) E) E
set_option maxRecDepth 100000 in
theorem xe_5_0 : xf_5_0 = zEx xb_5_0 := by
  unfold xf_5_0 xb_5_0
  rw [xe_5_1]
  rfl
theorem xc_5_0 : zCd 5 [0, 76, 100] 0 xb_5_0 := zc_aload_n xj_5 1 0 rfl rfl zf_ald_0 (zc_getf xj_5 4 12 1 0 24 rfl rfl (zf_getf_0 _) (zc_iconst xj_5 5 0 0 rfl rfl rfl (zc_sipush xj_5 8 (-1000) 4294966296 rfl rfl rfl (zc_sipush xj_5 11 (-1000) 4294966296 rfl rfl rfl (zc_invokevirtual1 xj_5 14 47 84 3 19 5 4 rfl rfl rfl rfl (zc_aload_n xj_5 15 0 rfl rfl zf_ald_0 (zc_getf xj_5 18 12 1 0 24 rfl rfl (zf_getf_0 _) (zc_iconst xj_5 19 1 1 rfl rfl rfl (zc_sipush xj_5 22 1000 1000 rfl rfl rfl (zc_sipush xj_5 25 (-1000) 4294966296 rfl rfl rfl (zc_invokevirtual1 xj_5 28 47 84 3 19 5 4 rfl rfl rfl rfl (zc_aload_n xj_5 29 0 rfl rfl zf_ald_0 (zc_getf xj_5 32 12 1 0 24 rfl rfl (zf_getf_0 _) (zc_iconst xj_5 33 2 2 rfl rfl rfl (zc_sipush xj_5 36 1000 1000 rfl rfl rfl (zc_sipush xj_5 39 1000 1000 rfl rfl rfl (zc_invokevirtual1 xj_5 42 47 84 3 19 5 4 rfl rfl rfl rfl (zc_aload_n xj_5 43 0 rfl rfl zf_ald_0 (zc_getf xj_5 46 12 1 0 24 rfl rfl (zf_getf_0 _) (zc_iconst xj_5 47 3 3 rfl rfl rfl (zc_sipush xj_5 50 (-1000) 4294966296 rfl rfl rfl (zc_sipush xj_5 53 1000 1000 rfl rfl rfl (zc_invokevirtual1 xj_5 56 47 84 3 19 5 4 rfl rfl rfl rfl (zc_aload_n xj_5 57 0 rfl rfl zf_ald_0 (zc_getf xj_5 60 12 1 0 24 rfl rfl (zf_getf_0 _) (zc_sipush xj_5 63 313 313 rfl rfl rfl (zc_putf xj_5 66 51 5 8 21 0 rfl rfl rfl (zc_aload_n xj_5 67 0 rfl rfl zf_ald_0 (zc_getf xj_5 70 18 1 1 29 rfl rfl (zf_getf_1 _) (zc_iconst xj_5 71 (-1) 4294967295 rfl rfl rfl (zc_any xj_5 74 (.invokestatic 55) [2, 356, 2, 20, 0, 4] rfl rfl (zq_fill) rfl rfl (zc_iconst xj_5 75 0 0 rfl rfl rfl (zc_istore_n xj_5 76 1 rfl rfl zf_ist_1 (xc_5_1))))))))))))))))))))))))))))))))))
noncomputable def xm_5 : Lean.RArray (zE → zKn) := .branch 76 (.leaf xf_5_0) (.branch 100 (.leaf xf_5_1) (.leaf xf_5_2))
theorem xa_5 : zCdAll 5 [0, 76, 100] xm_5 := zAll2_ok (P := fun t => ∃ c, zCd 5 [0, 76, 100] t c ∧ xm_5.get t = zEx c) ⟨⟨_, xc_5_0, xe_5_0⟩, ⟨_, xc_5_1, xe_5_1⟩, ⟨_, xc_5_2, xe_5_2⟩, trivial⟩
/-- SquareMesh$Mesh.become -/
theorem xj_6 : ∀ pc, pI 6 pc = pJ_6 pc := fun _ => rfl
noncomputable def xb_6_0 : List zF := [zq_aldg zG0, zq_getfg 1 zG0, zq_aldg zG1, zq_getfg 1 zG0, zq_calli 79 1 5 2, zq_aldg zG0, zq_aldg zG1, zq_getfg 1 zG3, zq_k 0, zq_aldg zG1, zq_getfg 1 zG7, zq_calli 7 3 1 6, zq_vret]
noncomputable def xf_6_0 : zE → zKn := fun E => zq_aldg zG0 (zq_getfg 1 zG0 (zq_aldg zG1 (zq_getfg 1 zG0 (zq_calli 79 1 5 2 (zq_aldg zG0 (zq_aldg zG1 (zq_getfg 1 zG3 (zq_k 0 (zq_aldg zG1 (zq_getfg 1 zG7 (zq_calli 7 3 1 6 (zq_vret (zNil) E) E) E) E) E) E) E) E) E) E) E) E) E
theorem xe_6_0 : xf_6_0 = zEx xb_6_0 := by
  unfold xf_6_0 xb_6_0
  rfl
theorem xc_6_0 : zCd 6 [0] 0 xb_6_0 := zc_aload_n xj_6 1 0 rfl rfl zf_ald_0 (zc_getf xj_6 4 12 1 0 24 rfl rfl (zf_getf_0 _) (zc_aload_n xj_6 5 1 rfl rfl zf_ald_1 (zc_getf xj_6 8 12 1 0 24 rfl rfl (zf_getf_0 _) (zc_invokevirtual1 xj_6 11 74 79 1 245 5 2 rfl rfl rfl rfl (zc_aload_n xj_6 12 0 rfl rfl zf_ald_0 (zc_aload_n xj_6 13 1 rfl rfl zf_ald_1 (zc_getf xj_6 16 25 1 3 33 rfl rfl (zf_getf_3 _) (zc_iconst xj_6 17 0 0 rfl rfl rfl (zc_aload_n xj_6 18 1 rfl rfl zf_ald_1 (zc_getf xj_6 21 78 1 7 45 rfl rfl (zf_getf_7 _) (zc_invokevirtual1 xj_6 24 81 7 3 246 1 6 rfl rfl rfl rfl (zc_return_ xj_6 25 rfl rfl (trivial)))))))))))))
noncomputable def xm_6 : Lean.RArray (zE → zKn) := .leaf xf_6_0
theorem xa_6 : zCdAll 6 [0] xm_6 := zAll2_ok (P := fun t => ∃ c, zCd 6 [0] t c ∧ xm_6.get t = zEx c) ⟨⟨_, xc_6_0, xe_6_0⟩, trivial⟩
/-- SquareMesh$Mesh.layAll -/
theorem xj_7 : ∀ pc, pI 7 pc = pJ_7 pc := fun _ => rfl
noncomputable def xb_7_2 : List zF := [zq_aldg zG0, zq_calli 27 0 1 2, zq_aldg zG0, zq_calli 31 0 1 4, zq_vret]
noncomputable def xf_7_2 : zE → zKn := fun E => zq_aldg zG0 (zq_calli 27 0 1 2 (zq_aldg zG0 (zq_calli 31 0 1 4 (zq_vret (zNil) E) E) E) E) E
theorem xe_7_2 : xf_7_2 = zEx xb_7_2 := by
  unfold xf_7_2 xb_7_2
  rfl
theorem xc_7_2 : zCd 7 [0, 11, 58] 58 xb_7_2 := zc_aload_n xj_7 59 0 rfl rfl zf_ald_0 (zc_invokevirtual1 xj_7 62 68 27 0 23 1 2 rfl rfl rfl rfl (zc_aload_n xj_7 63 0 rfl rfl zf_ald_0 (zc_invokevirtual1 xj_7 66 71 31 0 24 1 4 rfl rfl rfl rfl (zc_return_ xj_7 67 rfl rfl (trivial)))))
noncomputable def xb_7_1 : List zF := [zq_ildg zG4, zq_ildg zG3, zq_ic_ge 58, zq_ildg zG4, zq_k 74, zq_ic_ge 58, zq_ildg zG2, zq_k 3, zq_ildg zG4, zq_mul, zq_add, zq_istg zE5, zq_aldg zG0, zq_aldg zG1, zq_ildg zG5, zq_ild_ 0, zq_aldg zG1, zq_ildg zG5, zq_k 1, zq_add, zq_ild_ 0, zq_aldg zG1, zq_ildg zG5, zq_k 2, zq_add, zq_ild_ 0, zq_calli 19 3 1 4, zq_incg zG4 zE4 1, zq_goto 11]
noncomputable def xf_7_1 : zE → zKn := fun E => zq_ildg zG4 (zq_ildg zG3 (zq_ic_ge 58 (zq_ildg zG4 (zq_k 74 (zq_ic_ge 58 (zq_ildg zG2 (zq_k 3 (zq_ildg zG4 (zq_mul (zq_add (zq_istg zE5 (zq_aldg zG0 (zq_aldg zG1 (zq_ildg zG5 (zq_ild_ 0 (zq_aldg zG1 (zq_ildg zG5 (zq_k 1 (zq_add (zq_ild_ 0 (zq_aldg zG1 (zq_ildg zG5 (zq_k 2 (zq_add (zq_ild_ 0 (zq_calli 19 3 1 4 (zq_incg zG4 zE4 1 (zq_goto 11 (zNil) E) E) E) E) E) E) E) E) E) E) E) E) E) E) E) E) E) E) E) E) E) E) E) E) E) E) E) E) E
theorem xe_7_1 : xf_7_1 = zEx xb_7_1 := by
  unfold xf_7_1 xb_7_1
  rfl
theorem xc_7_1 : zCd 7 [0, 11, 58] 11 xb_7_1 := zc_iload xj_7 13 4 rfl rfl zf_ild_4 (zc_iload_n xj_7 14 3 rfl rfl zf_ild_3 (zc_ic_ge xj_7 17 44 58 rfl rfl rfl (zc_iload xj_7 19 4 rfl rfl zf_ild_4 (zc_bipush xj_7 21 74 74 rfl rfl rfl (zc_ic_ge xj_7 24 37 58 rfl rfl rfl (zc_iload_n xj_7 25 2 rfl rfl zf_ild_2 (zc_iconst xj_7 26 3 3 rfl rfl rfl (zc_iload xj_7 28 4 rfl rfl zf_ild_4 (zc_imul xj_7 29 rfl rfl (zc_iadd xj_7 30 rfl rfl (zc_istore xj_7 32 5 rfl rfl zf_ist_5 (zc_aload_n xj_7 33 0 rfl rfl zf_ald_0 (zc_aload_n xj_7 34 1 rfl rfl zf_ald_1 (zc_iload xj_7 36 5 rfl rfl zf_ild_5 (zc_iaload xj_7 37 rfl rfl (zc_aload_n xj_7 38 1 rfl rfl zf_ald_1 (zc_iload xj_7 40 5 rfl rfl zf_ild_5 (zc_iconst xj_7 41 1 1 rfl rfl rfl (zc_iadd xj_7 42 rfl rfl (zc_iaload xj_7 43 rfl rfl (zc_aload_n xj_7 44 1 rfl rfl zf_ald_1 (zc_iload xj_7 46 5 rfl rfl zf_ild_5 (zc_iconst xj_7 47 2 2 rfl rfl rfl (zc_iadd xj_7 48 rfl rfl (zc_iaload xj_7 49 rfl rfl (zc_invokevirtual1 xj_7 52 65 19 3 22 1 4 rfl rfl rfl rfl (zc_iinc xj_7 55 4 1 1 rfl rfl rfl (zf_inc_4 _) (zc_goto xj_7 56 (-44) 11 rfl rfl rfl (trivial)))))))))))))))))))))))))))))
noncomputable def xb_7_0 : List zF := zq_aldg zG0 :: zq_getfg 1 zG1 :: zq_k 4294967295 :: zq_fill :: zq_k 0 :: zq_istg zE4 :: xb_7_1
noncomputable def xf_7_0 : zE → zKn := fun E => zq_aldg zG0 (zq_getfg 1 zG1 (zq_k 4294967295 (zq_fill (zq_k 0 (zq_istg zE4 (xf_7_1 E) E) E) E) E) E) E
theorem xe_7_0 : xf_7_0 = zEx xb_7_0 := by
  unfold xf_7_0 xb_7_0
  rw [xe_7_1]
  rfl
theorem xc_7_0 : zCd 7 [0, 11, 58] 0 xb_7_0 := zc_aload_n xj_7 1 0 rfl rfl zf_ald_0 (zc_getf xj_7 4 18 1 1 29 rfl rfl (zf_getf_1 _) (zc_iconst xj_7 5 (-1) 4294967295 rfl rfl rfl (zc_any xj_7 8 (.invokestatic 55) [2, 356, 2, 20, 0, 4] rfl rfl (zq_fill) rfl rfl (zc_iconst xj_7 9 0 0 rfl rfl rfl (zc_istore xj_7 11 4 rfl rfl zf_ist_4 (xc_7_1))))))
noncomputable def xm_7 : Lean.RArray (zE → zKn) := .branch 11 (.leaf xf_7_0) (.branch 58 (.leaf xf_7_1) (.leaf xf_7_2))
theorem xa_7 : zCdAll 7 [0, 11, 58] xm_7 := zAll2_ok (P := fun t => ∃ c, zCd 7 [0, 11, 58] t c ∧ xm_7.get t = zEx c) ⟨⟨_, xc_7_0, xe_7_0⟩, ⟨_, xc_7_1, xe_7_1⟩, ⟨_, xc_7_2, xe_7_2⟩, trivial⟩
/-- SquareMesh$Mesh.tellPoint -/
theorem xj_8 : ∀ pc, pI 8 pc = pJ_8 pc := fun _ => rfl
noncomputable def xb_8_1 : List zF := [zq_aldg zG0, zq_getfg 1 zG0, zq_calli 87 0 5 2, zq_istg zE3, zq_aldg zG0, zq_getfg 1 zG0, zq_getfg 5 zG2, zq_ildg zG3, zq_k 0, zq_iast, zq_aldg zG0, zq_ildg zG3, zq_ildg zG1, zq_ildg zG2, zq_calli 9 3 1 8, zq_ildg zG3, zq_iret 0]
noncomputable def xf_8_1 : zE → zKn := fun E => zq_aldg zG0 (zq_getfg 1 zG0 (zq_calli 87 0 5 2 (zq_istg zE3 (zq_aldg zG0 (zq_getfg 1 zG0 (zq_getfg 5 zG2 (zq_ildg zG3 (zq_k 0 (zq_iast (zq_aldg zG0 (zq_ildg zG3 (zq_ildg zG1 (zq_ildg zG2 (zq_calli 9 3 1 8 (zq_ildg zG3 (zq_iret 0 (zNil) E) E) E) E) E) E) E) E) E) E) E) E) E) E) E) E) E
theorem xe_8_1 : xf_8_1 = zEx xb_8_1 := by
  unfold xf_8_1 xb_8_1
  rfl
theorem xc_8_1 : zCd 8 [0, 14] 14 xb_8_1 := zc_aload_n xj_8 15 0 rfl rfl zf_ald_0 (zc_getf xj_8 18 12 1 0 24 rfl rfl (zf_getf_0 _) (zc_invokevirtual1 xj_8 21 89 87 0 44 5 2 rfl rfl rfl rfl (zc_istore_n xj_8 22 3 rfl rfl zf_ist_3 (zc_aload_n xj_8 23 0 rfl rfl zf_ald_0 (zc_getf xj_8 26 12 1 0 24 rfl rfl (zf_getf_0 _) (zc_getf xj_8 29 93 5 2 7 rfl rfl (zf_getf_2 _) (zc_iload_n xj_8 30 3 rfl rfl zf_ild_3 (zc_iconst xj_8 31 0 0 rfl rfl rfl (zc_iastore xj_8 32 rfl rfl (zc_aload_n xj_8 33 0 rfl rfl zf_ald_0 (zc_iload_n xj_8 34 3 rfl rfl zf_ild_3 (zc_iload_n xj_8 35 1 rfl rfl zf_ild_1 (zc_iload_n xj_8 36 2 rfl rfl zf_ild_2 (zc_invokevirtual1 xj_8 39 96 9 3 45 1 8 rfl rfl rfl rfl (zc_iload_n xj_8 40 3 rfl rfl zf_ild_3 (zc_ireturn0 xj_8 41 rfl rfl (trivial)))))))))))))))))
noncomputable def xb_8_0 : List zF := [zq_aldg zG0, zq_getfg 1 zG0, zq_ildg zG1, zq_ildg zG2, zq_calli 88 2 5 3, zq_if_ne 14, zq_k 4294967295, zq_iret 0]
noncomputable def xf_8_0 : zE → zKn := fun E => zq_aldg zG0 (zq_getfg 1 zG0 (zq_ildg zG1 (zq_ildg zG2 (zq_calli 88 2 5 3 (zq_if_ne 14 (zq_k 4294967295 (zq_iret 0 (zNil) E) E) E) E) E) E) E) E
theorem xe_8_0 : xf_8_0 = zEx xb_8_0 := by
  unfold xf_8_0 xb_8_0
  rfl
theorem xc_8_0 : zCd 8 [0, 14] 0 xb_8_0 := zc_aload_n xj_8 1 0 rfl rfl zf_ald_0 (zc_getf xj_8 4 12 1 0 24 rfl rfl (zf_getf_0 _) (zc_iload_n xj_8 5 1 rfl rfl zf_ild_1 (zc_iload_n xj_8 6 2 rfl rfl zf_ild_2 (zc_invokevirtual1 xj_8 9 85 88 2 43 5 3 rfl rfl rfl rfl (zc_if_ne xj_8 12 5 14 rfl rfl rfl (zc_iconst xj_8 13 (-1) 4294967295 rfl rfl rfl (zc_ireturn0 xj_8 14 rfl rfl (trivial))))))))
noncomputable def xm_8 : Lean.RArray (zE → zKn) := .branch 14 (.leaf xf_8_0) (.leaf xf_8_1)
theorem xa_8 : zCdAll 8 [0, 14] xm_8 := zAll2_ok (P := fun t => ∃ c, zCd 8 [0, 14] t c ∧ xm_8.get t = zEx c) ⟨⟨_, xc_8_0, xe_8_0⟩, ⟨_, xc_8_1, xe_8_1⟩, trivial⟩
/-- SquareMesh$Mesh.insert -/
theorem xj_9 : ∀ pc, pI 9 pc = pJ_9 pc := fun _ => rfl
noncomputable def xb_9_1 : List zF := [zq_aldg zG0, zq_ildg zG4, zq_k 0, zq_calli 35 2 1 3, zq_istg zE5, zq_aldg zG0, zq_ildg zG4, zq_k 1, zq_calli 35 2 1 3, zq_istg zE6, zq_aldg zG0, zq_ildg zG4, zq_k 2, zq_calli 35 2 1 3, zq_istg zE7, zq_aldg zG0, zq_getfg 1 zG0, zq_ildg zG1, zq_ildg zG2, zq_ildg zG3, zq_calli 84 3 5 4, zq_aldg zG0, zq_ildg zG5, zq_ildg zG6, zq_ildg zG7, zq_calli 20 3 1 4, zq_aldg zG0, zq_ildg zG5, zq_ildg zG6, zq_ildg zG1, zq_calli 10 3 1 5, zq_aldg zG0, zq_ildg zG6, zq_ildg zG7, zq_ildg zG1, zq_calli 10 3 1 5, zq_aldg zG0, zq_ildg zG7, zq_ildg zG5, zq_ildg zG1, zq_calli 10 3 1 5, zq_aldg zG0, zq_calli 23 0 1 4, zq_vret]
noncomputable def xf_9_1 : zE → zKn := fun E => zq_aldg zG0 (zq_ildg zG4 (zq_k 0 (zq_calli 35 2 1 3 (zq_istg zE5 (zq_aldg zG0 (zq_ildg zG4 (zq_k 1 (zq_calli 35 2 1 3 (zq_istg zE6 (zq_aldg zG0 (zq_ildg zG4 (zq_k 2 (zq_calli 35 2 1 3 (zq_istg zE7 (zq_aldg zG0 (zq_getfg 1 zG0 (zq_ildg zG1 (zq_ildg zG2 (zq_ildg zG3 (zq_calli 84 3 5 4 (zq_aldg zG0 (zq_ildg zG5 (zq_ildg zG6 (zq_ildg zG7 (zq_calli 20 3 1 4 (zq_aldg zG0 (zq_ildg zG5 (zq_ildg zG6 (zq_ildg zG1 (zq_calli 10 3 1 5 (zq_aldg zG0 (zq_ildg zG6 (zq_ildg zG7 (zq_ildg zG1 (zq_calli 10 3 1 5 (zq_aldg zG0 (zq_ildg zG7 (zq_ildg zG5 (zq_ildg zG1 (zq_calli 10 3 1 5 (zq_aldg zG0 (zq_calli 23 0 1 4 (zq_vret (zNil) E) E) E) E) E) E) E) E) E) E) E) E) E) E) E) E) E) E) E) E) E) E) E) E) E) E) E) E) E) E) E) E) E) E) E) E) E) E) E) E) E) E) E) E
set_option maxRecDepth 100000 in
theorem xe_9_1 : xf_9_1 = zEx xb_9_1 := by
  unfold xf_9_1 xb_9_1
  rfl
theorem xc_9_1 : zCd 9 [0, 15] 15 xb_9_1 := zc_aload_n xj_9 16 0 rfl rfl zf_ald_0 (zc_iload xj_9 18 4 rfl rfl zf_ild_4 (zc_iconst xj_9 19 0 0 rfl rfl rfl (zc_invokevirtual1 xj_9 22 103 35 2 50 1 3 rfl rfl rfl rfl (zc_istore xj_9 24 5 rfl rfl zf_ist_5 (zc_aload_n xj_9 25 0 rfl rfl zf_ald_0 (zc_iload xj_9 27 4 rfl rfl zf_ild_4 (zc_iconst xj_9 28 1 1 rfl rfl rfl (zc_invokevirtual1 xj_9 31 103 35 2 50 1 3 rfl rfl rfl rfl (zc_istore xj_9 33 6 rfl rfl zf_ist_6 (zc_aload_n xj_9 34 0 rfl rfl zf_ald_0 (zc_iload xj_9 36 4 rfl rfl zf_ild_4 (zc_iconst xj_9 37 2 2 rfl rfl rfl (zc_invokevirtual1 xj_9 40 103 35 2 50 1 3 rfl rfl rfl rfl (zc_istore xj_9 42 7 rfl rfl zf_ist_7 (zc_aload_n xj_9 43 0 rfl rfl zf_ald_0 (zc_getf xj_9 46 12 1 0 24 rfl rfl (zf_getf_0 _) (zc_iload_n xj_9 47 1 rfl rfl zf_ild_1 (zc_iload_n xj_9 48 2 rfl rfl zf_ild_2 (zc_iload_n xj_9 49 3 rfl rfl zf_ild_3 (zc_invokevirtual1 xj_9 52 47 84 3 19 5 4 rfl rfl rfl rfl (zc_aload_n xj_9 53 0 rfl rfl zf_ald_0 (zc_iload xj_9 55 5 rfl rfl zf_ild_5 (zc_iload xj_9 57 6 rfl rfl zf_ild_6 (zc_iload xj_9 59 7 rfl rfl zf_ild_7 (zc_invokevirtual1 xj_9 62 106 20 3 52 1 4 rfl rfl rfl rfl (zc_aload_n xj_9 63 0 rfl rfl zf_ald_0 (zc_iload xj_9 65 5 rfl rfl zf_ild_5 (zc_iload xj_9 67 6 rfl rfl zf_ild_6 (zc_iload_n xj_9 68 1 rfl rfl zf_ild_1 (zc_invokevirtual1 xj_9 71 109 10 3 53 1 5 rfl rfl rfl rfl (zc_aload_n xj_9 72 0 rfl rfl zf_ald_0 (zc_iload xj_9 74 6 rfl rfl zf_ild_6 (zc_iload xj_9 76 7 rfl rfl zf_ild_7 (zc_iload_n xj_9 77 1 rfl rfl zf_ild_1 (zc_invokevirtual1 xj_9 80 109 10 3 53 1 5 rfl rfl rfl rfl (zc_aload_n xj_9 81 0 rfl rfl zf_ald_0 (zc_iload xj_9 83 7 rfl rfl zf_ild_7 (zc_iload xj_9 85 5 rfl rfl zf_ild_5 (zc_iload_n xj_9 86 1 rfl rfl zf_ild_1 (zc_invokevirtual1 xj_9 89 109 10 3 53 1 5 rfl rfl rfl rfl (zc_aload_n xj_9 90 0 rfl rfl zf_ald_0 (zc_invokevirtual1 xj_9 93 112 23 0 60 1 4 rfl rfl rfl rfl (zc_return_ xj_9 94 rfl rfl (trivial))))))))))))))))))))))))))))))))))))))))))))
noncomputable def xb_9_0 : List zF := [zq_aldg zG0, zq_ildg zG2, zq_ildg zG3, zq_calli 44 2 1 4, zq_istg zE4, zq_ildg zG4, zq_k 4294967295, zq_ic_ne 15, zq_vret]
noncomputable def xf_9_0 : zE → zKn := fun E => zq_aldg zG0 (zq_ildg zG2 (zq_ildg zG3 (zq_calli 44 2 1 4 (zq_istg zE4 (zq_ildg zG4 (zq_k 4294967295 (zq_ic_ne 15 (zq_vret (zNil) E) E) E) E) E) E) E) E) E
theorem xe_9_0 : xf_9_0 = zEx xb_9_0 := by
  unfold xf_9_0 xb_9_0
  rfl
theorem xc_9_0 : zCd 9 [0, 15] 0 xb_9_0 := zc_aload_n xj_9 1 0 rfl rfl zf_ald_0 (zc_iload_n xj_9 2 2 rfl rfl zf_ild_2 (zc_iload_n xj_9 3 3 rfl rfl zf_ild_3 (zc_invokevirtual1 xj_9 6 99 44 2 46 1 4 rfl rfl rfl rfl (zc_istore xj_9 8 4 rfl rfl zf_ist_4 (zc_iload xj_9 10 4 rfl rfl zf_ild_4 (zc_iconst xj_9 11 (-1) 4294967295 rfl rfl rfl (zc_ic_ne xj_9 14 4 15 rfl rfl rfl (zc_return_ xj_9 15 rfl rfl (trivial)))))))))
noncomputable def xm_9 : Lean.RArray (zE → zKn) := .branch 15 (.leaf xf_9_0) (.leaf xf_9_1)
theorem xa_9 : zCdAll 9 [0, 15] xm_9 := zAll2_ok (P := fun t => ∃ c, zCd 9 [0, 15] t c ∧ xm_9.get t = zEx c) ⟨⟨_, xc_9_0, xe_9_0⟩, ⟨_, xc_9_1, xe_9_1⟩, trivial⟩
/-- SquareMesh$Mesh.join -/
theorem xj_10 : ∀ pc, pI 10 pc = pJ_10 pc := fun _ => rfl
noncomputable def xb_10_3 : List zF := [zq_vret]
noncomputable def xf_10_3 : zE → zKn := fun E => zq_vret (zNil) E
theorem xe_10_3 : xf_10_3 = zEx xb_10_3 := by
  unfold xf_10_3 xb_10_3
  rfl
theorem xc_10_3 : zCd 10 [0, 21, 60, 103] 103 xb_10_3 := zc_return_ xj_10 104 rfl rfl (trivial)
noncomputable def xb_10_2 : List zF := zq_aldg zG0 :: zq_getfg 1 zG1 :: zq_ildg zG2 :: zq_k 40 :: zq_mul :: zq_ildg zG1 :: zq_add :: zq_ild_ 0 :: zq_istg zE4 :: zq_ildg zG4 :: zq_k 4294967295 :: zq_ic_eq 103 :: zq_aldg zG0 :: zq_ildg zG2 :: zq_ildg zG1 :: zq_ildg zG4 :: zq_calli 20 3 1 4 :: zq_aldg zG0 :: zq_ildg zG1 :: zq_ildg zG4 :: zq_ildg zG3 :: zq_calli 21 3 1 4 :: zq_aldg zG0 :: zq_ildg zG4 :: zq_ildg zG2 :: zq_ildg zG3 :: zq_calli 21 3 1 4 :: xb_10_3
noncomputable def xf_10_2 : zE → zKn := fun E => zq_aldg zG0 (zq_getfg 1 zG1 (zq_ildg zG2 (zq_k 40 (zq_mul (zq_ildg zG1 (zq_add (zq_ild_ 0 (zq_istg zE4 (zq_ildg zG4 (zq_k 4294967295 (zq_ic_eq 103 (zq_aldg zG0 (zq_ildg zG2 (zq_ildg zG1 (zq_ildg zG4 (zq_calli 20 3 1 4 (zq_aldg zG0 (zq_ildg zG1 (zq_ildg zG4 (zq_ildg zG3 (zq_calli 21 3 1 4 (zq_aldg zG0 (zq_ildg zG4 (zq_ildg zG2 (zq_ildg zG3 (zq_calli 21 3 1 4 (xf_10_3 E) E) E) E) E) E) E) E) E) E) E) E) E) E) E) E) E) E) E) E) E) E) E) E) E) E) E) E
theorem xe_10_2 : xf_10_2 = zEx xb_10_2 := by
  unfold xf_10_2 xb_10_2
  rw [xe_10_3]
  rfl
theorem xc_10_2 : zCd 10 [0, 21, 60, 103] 60 xb_10_2 := zc_aload_n xj_10 61 0 rfl rfl zf_ald_0 (zc_getf xj_10 64 18 1 1 29 rfl rfl (zf_getf_1 _) (zc_iload_n xj_10 65 2 rfl rfl zf_ild_2 (zc_bipush xj_10 67 40 40 rfl rfl rfl (zc_imul xj_10 68 rfl rfl (zc_iload_n xj_10 69 1 rfl rfl zf_ild_1 (zc_iadd xj_10 70 rfl rfl (zc_iaload xj_10 71 rfl rfl (zc_istore xj_10 73 4 rfl rfl zf_ist_4 (zc_iload xj_10 75 4 rfl rfl zf_ild_4 (zc_iconst xj_10 76 (-1) 4294967295 rfl rfl rfl (zc_ic_eq xj_10 79 27 103 rfl rfl rfl (zc_aload_n xj_10 80 0 rfl rfl zf_ald_0 (zc_iload_n xj_10 81 2 rfl rfl zf_ild_2 (zc_iload_n xj_10 82 1 rfl rfl zf_ild_1 (zc_iload xj_10 84 4 rfl rfl zf_ild_4 (zc_invokevirtual1 xj_10 87 106 20 3 52 1 4 rfl rfl rfl rfl (zc_aload_n xj_10 88 0 rfl rfl zf_ald_0 (zc_iload_n xj_10 89 1 rfl rfl zf_ild_1 (zc_iload xj_10 91 4 rfl rfl zf_ild_4 (zc_iload_n xj_10 92 3 rfl rfl zf_ild_3 (zc_invokevirtual1 xj_10 95 119 21 3 56 1 4 rfl rfl rfl rfl (zc_aload_n xj_10 96 0 rfl rfl zf_ald_0 (zc_iload xj_10 98 4 rfl rfl zf_ild_4 (zc_iload_n xj_10 99 2 rfl rfl zf_ild_2 (zc_iload_n xj_10 100 3 rfl rfl zf_ild_3 (zc_invokevirtual1 xj_10 103 119 21 3 56 1 4 rfl rfl rfl rfl (xc_10_3)))))))))))))))))))))))))))
noncomputable def xb_10_1 : List zF := zq_aldg zG0 :: zq_getfg 1 zG0 :: zq_ildg zG1 :: zq_ildg zG2 :: zq_calli 91 2 5 3 :: zq_if_eq 60 :: zq_aldg zG0 :: zq_getfg 1 zG0 :: zq_ildg zG1 :: zq_ildg zG2 :: zq_calli 93 2 5 3 :: zq_aldg zG0 :: zq_getfg 1 zG0 :: zq_ildg zG1 :: zq_ildg zG3 :: zq_calli 92 2 5 3 :: zq_aldg zG0 :: zq_getfg 1 zG0 :: zq_ildg zG2 :: zq_ildg zG3 :: zq_calli 92 2 5 3 :: xb_10_2
noncomputable def xf_10_1 : zE → zKn := fun E => zq_aldg zG0 (zq_getfg 1 zG0 (zq_ildg zG1 (zq_ildg zG2 (zq_calli 91 2 5 3 (zq_if_eq 60 (zq_aldg zG0 (zq_getfg 1 zG0 (zq_ildg zG1 (zq_ildg zG2 (zq_calli 93 2 5 3 (zq_aldg zG0 (zq_getfg 1 zG0 (zq_ildg zG1 (zq_ildg zG3 (zq_calli 92 2 5 3 (zq_aldg zG0 (zq_getfg 1 zG0 (zq_ildg zG2 (zq_ildg zG3 (zq_calli 92 2 5 3 (xf_10_2 E) E) E) E) E) E) E) E) E) E) E) E) E) E) E) E) E) E) E) E) E) E
theorem xe_10_1 : xf_10_1 = zEx xb_10_1 := by
  unfold xf_10_1 xb_10_1
  rw [xe_10_2]
  rfl
theorem xc_10_1 : zCd 10 [0, 21, 60, 103] 21 xb_10_1 := zc_aload_n xj_10 22 0 rfl rfl zf_ald_0 (zc_getf xj_10 25 12 1 0 24 rfl rfl (zf_getf_0 _) (zc_iload_n xj_10 26 1 rfl rfl zf_ild_1 (zc_iload_n xj_10 27 2 rfl rfl zf_ild_2 (zc_invokevirtual1 xj_10 30 122 91 2 58 5 3 rfl rfl rfl rfl (zc_if_eq xj_10 33 30 60 rfl rfl rfl (zc_aload_n xj_10 34 0 rfl rfl zf_ald_0 (zc_getf xj_10 37 12 1 0 24 rfl rfl (zf_getf_0 _) (zc_iload_n xj_10 38 1 rfl rfl zf_ild_1 (zc_iload_n xj_10 39 2 rfl rfl zf_ild_2 (zc_invokevirtual1 xj_10 42 125 93 2 59 5 3 rfl rfl rfl rfl (zc_aload_n xj_10 43 0 rfl rfl zf_ald_0 (zc_getf xj_10 46 12 1 0 24 rfl rfl (zf_getf_0 _) (zc_iload_n xj_10 47 1 rfl rfl zf_ild_1 (zc_iload_n xj_10 48 3 rfl rfl zf_ild_3 (zc_invokevirtual1 xj_10 51 61 92 2 21 5 3 rfl rfl rfl rfl (zc_aload_n xj_10 52 0 rfl rfl zf_ald_0 (zc_getf xj_10 55 12 1 0 24 rfl rfl (zf_getf_0 _) (zc_iload_n xj_10 56 2 rfl rfl zf_ild_2 (zc_iload_n xj_10 57 3 rfl rfl zf_ild_3 (zc_invokevirtual1 xj_10 60 61 92 2 21 5 3 rfl rfl rfl rfl (xc_10_2)))))))))))))))))))))
noncomputable def xb_10_0 : List zF := [zq_aldg zG0, zq_getfg 1 zG0, zq_ildg zG1, zq_ildg zG2, zq_ildg zG3, zq_calli 96 3 5 4, zq_if_le 21, zq_aldg zG0, zq_ildg zG1, zq_ildg zG2, zq_ildg zG3, zq_calli 21 3 1 4, zq_vret]
noncomputable def xf_10_0 : zE → zKn := fun E => zq_aldg zG0 (zq_getfg 1 zG0 (zq_ildg zG1 (zq_ildg zG2 (zq_ildg zG3 (zq_calli 96 3 5 4 (zq_if_le 21 (zq_aldg zG0 (zq_ildg zG1 (zq_ildg zG2 (zq_ildg zG3 (zq_calli 21 3 1 4 (zq_vret (zNil) E) E) E) E) E) E) E) E) E) E) E) E) E
theorem xe_10_0 : xf_10_0 = zEx xb_10_0 := by
  unfold xf_10_0 xb_10_0
  rfl
theorem xc_10_0 : zCd 10 [0, 21, 60, 103] 0 xb_10_0 := zc_aload_n xj_10 1 0 rfl rfl zf_ald_0 (zc_getf xj_10 4 12 1 0 24 rfl rfl (zf_getf_0 _) (zc_iload_n xj_10 5 1 rfl rfl zf_ild_1 (zc_iload_n xj_10 6 2 rfl rfl zf_ild_2 (zc_iload_n xj_10 7 3 rfl rfl zf_ild_3 (zc_invokevirtual1 xj_10 10 115 96 3 54 5 4 rfl rfl rfl rfl (zc_if_le xj_10 13 11 21 rfl rfl rfl (zc_aload_n xj_10 14 0 rfl rfl zf_ald_0 (zc_iload_n xj_10 15 1 rfl rfl zf_ild_1 (zc_iload_n xj_10 16 2 rfl rfl zf_ild_2 (zc_iload_n xj_10 17 3 rfl rfl zf_ild_3 (zc_invokevirtual1 xj_10 20 119 21 3 56 1 4 rfl rfl rfl rfl (zc_return_ xj_10 21 rfl rfl (trivial)))))))))))))
noncomputable def xm_10 : Lean.RArray (zE → zKn) := .branch 60 (.branch 21 (.leaf xf_10_0) (.leaf xf_10_1)) (.branch 103 (.leaf xf_10_2) (.leaf xf_10_3))
theorem xa_10 : zCdAll 10 [0, 21, 60, 103] xm_10 := zAll2_ok (P := fun t => ∃ c, zCd 10 [0, 21, 60, 103] t c ∧ xm_10.get t = zEx c) ⟨⟨_, xc_10_0, xe_10_0⟩, ⟨_, xc_10_1, xe_10_1⟩, ⟨_, xc_10_2, xe_10_2⟩, ⟨_, xc_10_3, xe_10_3⟩, trivial⟩
/-- SquareMesh$Mesh.takeOut -/
theorem xj_11 : ∀ pc, pI 11 pc = pJ_11 pc := fun _ => rfl
noncomputable def xb_11_4 : List zF := [zq_aldg zG0, zq_calli 23 0 1 4, zq_vret]
noncomputable def xf_11_4 : zE → zKn := fun E => zq_aldg zG0 (zq_calli 23 0 1 4 (zq_vret (zNil) E) E) E
theorem xe_11_4 : xf_11_4 = zEx xb_11_4 := by
  unfold xf_11_4 xb_11_4
  rfl
theorem xc_11_4 : zCd 11 [0, 8, 40, 50, 66] 66 xb_11_4 := zc_aload_n xj_11 67 0 rfl rfl zf_ald_0 (zc_invokevirtual1 xj_11 70 112 23 0 60 1 4 rfl rfl rfl rfl (zc_return_ xj_11 71 rfl rfl (trivial)))
noncomputable def xb_11_3 : List zF := [zq_ildg zG3, zq_k 3, zq_ic_lt 66, zq_aldg zG0, zq_ildg zG3, zq_calli 12 1 1 4, zq_incg zG3 zE3 4294967295, zq_goto 50]
noncomputable def xf_11_3 : zE → zKn := fun E => zq_ildg zG3 (zq_k 3 (zq_ic_lt 66 (zq_aldg zG0 (zq_ildg zG3 (zq_calli 12 1 1 4 (zq_incg zG3 zE3 4294967295 (zq_goto 50 (zNil) E) E) E) E) E) E) E) E
theorem xe_11_3 : xf_11_3 = zEx xb_11_3 := by
  unfold xf_11_3 xb_11_3
  rfl
theorem xc_11_3 : zCd 11 [0, 8, 40, 50, 66] 50 xb_11_3 := zc_iload_n xj_11 51 3 rfl rfl zf_ild_3 (zc_iconst xj_11 52 3 3 rfl rfl rfl (zc_ic_lt xj_11 55 14 66 rfl rfl rfl (zc_aload_n xj_11 56 0 rfl rfl zf_ald_0 (zc_iload_n xj_11 57 3 rfl rfl zf_ild_3 (zc_invokevirtual1 xj_11 60 136 12 1 73 1 4 rfl rfl rfl rfl (zc_iinc xj_11 63 3 (-1) 4294967295 rfl rfl rfl (zf_inc_3 _) (zc_goto xj_11 64 (-13) 50 rfl rfl rfl (trivial))))))))
noncomputable def xb_11_2 : List zF := zq_aldg zG0 :: zq_getfg 1 zG0 :: zq_ildg zG1 :: zq_calli 85 1 5 2 :: zq_ildg zG2 :: zq_istg zE3 :: xb_11_3
noncomputable def xf_11_2 : zE → zKn := fun E => zq_aldg zG0 (zq_getfg 1 zG0 (zq_ildg zG1 (zq_calli 85 1 5 2 (zq_ildg zG2 (zq_istg zE3 (xf_11_3 E) E) E) E) E) E) E
theorem xe_11_2 : xf_11_2 = zEx xb_11_2 := by
  unfold xf_11_2 xb_11_2
  rw [xe_11_3]
  rfl
theorem xc_11_2 : zCd 11 [0, 8, 40, 50, 66] 40 xb_11_2 := zc_aload_n xj_11 41 0 rfl rfl zf_ald_0 (zc_getf xj_11 44 12 1 0 24 rfl rfl (zf_getf_0 _) (zc_iload_n xj_11 45 1 rfl rfl zf_ild_1 (zc_invokevirtual1 xj_11 48 132 85 1 72 5 2 rfl rfl rfl rfl (zc_iload_n xj_11 49 2 rfl rfl zf_ild_2 (zc_istore_n xj_11 50 3 rfl rfl zf_ist_3 (xc_11_3))))))
noncomputable def xb_11_1 : List zF := [zq_ildg zG3, zq_ildg zG2, zq_ic_ge 40, zq_aldg zG0, zq_ildg zG1, zq_aldg zG0, zq_getfg 1 zG6, zq_ildg zG3, zq_ild_ 0, zq_aldg zG0, zq_getfg 1 zG6, zq_ildg zG3, zq_k 1, zq_add, zq_ildg zG2, zq_rem, zq_ild_ 0, zq_calli 20 3 1 4, zq_incg zG3 zE3 1, zq_goto 8]
noncomputable def xf_11_1 : zE → zKn := fun E => zq_ildg zG3 (zq_ildg zG2 (zq_ic_ge 40 (zq_aldg zG0 (zq_ildg zG1 (zq_aldg zG0 (zq_getfg 1 zG6 (zq_ildg zG3 (zq_ild_ 0 (zq_aldg zG0 (zq_getfg 1 zG6 (zq_ildg zG3 (zq_k 1 (zq_add (zq_ildg zG2 (zq_rem (zq_ild_ 0 (zq_calli 20 3 1 4 (zq_incg zG3 zE3 1 (zq_goto 8 (zNil) E) E) E) E) E) E) E) E) E) E) E) E) E) E) E) E) E) E) E) E
theorem xe_11_1 : xf_11_1 = zEx xb_11_1 := by
  unfold xf_11_1 xb_11_1
  rfl
theorem xc_11_1 : zCd 11 [0, 8, 40, 50, 66] 8 xb_11_1 := zc_iload_n xj_11 9 3 rfl rfl zf_ild_3 (zc_iload_n xj_11 10 2 rfl rfl zf_ild_2 (zc_ic_ge xj_11 13 30 40 rfl rfl rfl (zc_aload_n xj_11 14 0 rfl rfl zf_ald_0 (zc_iload_n xj_11 15 1 rfl rfl zf_ild_1 (zc_aload_n xj_11 16 0 rfl rfl zf_ald_0 (zc_getf xj_11 19 35 1 6 42 rfl rfl (zf_getf_6 _) (zc_iload_n xj_11 20 3 rfl rfl zf_ild_3 (zc_iaload xj_11 21 rfl rfl (zc_aload_n xj_11 22 0 rfl rfl zf_ald_0 (zc_getf xj_11 25 35 1 6 42 rfl rfl (zf_getf_6 _) (zc_iload_n xj_11 26 3 rfl rfl zf_ild_3 (zc_iconst xj_11 27 1 1 rfl rfl rfl (zc_iadd xj_11 28 rfl rfl (zc_iload_n xj_11 29 2 rfl rfl zf_ild_2 (zc_irem xj_11 30 rfl rfl (zc_iaload xj_11 31 rfl rfl (zc_invokevirtual1 xj_11 34 106 20 3 52 1 4 rfl rfl rfl rfl (zc_iinc xj_11 37 3 1 1 rfl rfl rfl (zf_inc_3 _) (zc_goto xj_11 38 (-29) 8 rfl rfl rfl (trivial))))))))))))))))))))
noncomputable def xb_11_0 : List zF := zq_aldg zG0 :: zq_ildg zG1 :: zq_calli 45 1 1 6 :: zq_istg zE2 :: zq_k 0 :: zq_istg zE3 :: xb_11_1
noncomputable def xf_11_0 : zE → zKn := fun E => zq_aldg zG0 (zq_ildg zG1 (zq_calli 45 1 1 6 (zq_istg zE2 (zq_k 0 (zq_istg zE3 (xf_11_1 E) E) E) E) E) E) E
theorem xe_11_0 : xf_11_0 = zEx xb_11_0 := by
  unfold xf_11_0 xb_11_0
  rw [xe_11_1]
  rfl
theorem xc_11_0 : zCd 11 [0, 8, 40, 50, 66] 0 xb_11_0 := zc_aload_n xj_11 1 0 rfl rfl zf_ald_0 (zc_iload_n xj_11 2 1 rfl rfl zf_ild_1 (zc_invokevirtual1 xj_11 5 128 45 1 69 1 6 rfl rfl rfl rfl (zc_istore_n xj_11 6 2 rfl rfl zf_ist_2 (zc_iconst xj_11 7 0 0 rfl rfl rfl (zc_istore_n xj_11 8 3 rfl rfl zf_ist_3 (xc_11_1))))))
noncomputable def xm_11 : Lean.RArray (zE → zKn) := .branch 40 (.branch 8 (.leaf xf_11_0) (.leaf xf_11_1)) (.branch 50 (.leaf xf_11_2) (.branch 66 (.leaf xf_11_3) (.leaf xf_11_4)))
theorem xa_11 : zCdAll 11 [0, 8, 40, 50, 66] xm_11 := zAll2_ok (P := fun t => ∃ c, zCd 11 [0, 8, 40, 50, 66] t c ∧ xm_11.get t = zEx c) ⟨⟨_, xc_11_0, xe_11_0⟩, ⟨_, xc_11_1, xe_11_1⟩, ⟨_, xc_11_2, xe_11_2⟩, ⟨_, xc_11_3, xe_11_3⟩, ⟨_, xc_11_4, xe_11_4⟩, trivial⟩
/-- SquareMesh$Mesh.cutEar -/
theorem xj_12 : ∀ pc, pI 12 pc = pJ_12 pc := fun _ => rfl
noncomputable def xb_12_5 : List zF := [zq_vret]
noncomputable def xf_12_5 : zE → zKn := fun E => zq_vret (zNil) E
theorem xe_12_5 : xf_12_5 = zEx xb_12_5 := by
  unfold xf_12_5 xb_12_5
  rfl
theorem xc_12_5 : zCd 12 [0, 2, 50, 77, 78, 84] 84 xb_12_5 := zc_return_ xj_12 85 rfl rfl (trivial)
noncomputable def xb_12_4 : List zF := [zq_incg zG2 zE2 1, zq_goto 2]
noncomputable def xf_12_4 : zE → zKn := fun E => zq_incg zG2 zE2 1 (zq_goto 2 (zNil) E) E
theorem xe_12_4 : xf_12_4 = zEx xb_12_4 := by
  unfold xf_12_4 xb_12_4
  rfl
theorem xc_12_4 : zCd 12 [0, 2, 50, 77, 78, 84] 78 xb_12_4 := zc_iinc xj_12 81 2 1 1 rfl rfl rfl (zf_inc_2 _) (zc_goto xj_12 82 (-79) 2 rfl rfl rfl (trivial))
noncomputable def xb_12_3 : List zF := [zq_vret]
noncomputable def xf_12_3 : zE → zKn := fun E => zq_vret (zNil) E
theorem xe_12_3 : xf_12_3 = zEx xb_12_3 := by
  unfold xf_12_3 xb_12_3
  rfl
theorem xc_12_3 : zCd 12 [0, 2, 50, 77, 78, 84] 77 xb_12_3 := zc_return_ xj_12 78 rfl rfl (trivial)
noncomputable def xb_12_2 : List zF := [zq_ildg zG3, zq_k 1, zq_add, zq_ildg zG1, zq_ic_ge 77, zq_aldg zG0, zq_getfg 1 zG6, zq_ildg zG3, zq_aldg zG0, zq_getfg 1 zG6, zq_ildg zG3, zq_k 1, zq_add, zq_ild_ 0, zq_iast, zq_incg zG3 zE3 1, zq_goto 50]
noncomputable def xf_12_2 : zE → zKn := fun E => zq_ildg zG3 (zq_k 1 (zq_add (zq_ildg zG1 (zq_ic_ge 77 (zq_aldg zG0 (zq_getfg 1 zG6 (zq_ildg zG3 (zq_aldg zG0 (zq_getfg 1 zG6 (zq_ildg zG3 (zq_k 1 (zq_add (zq_ild_ 0 (zq_iast (zq_incg zG3 zE3 1 (zq_goto 50 (zNil) E) E) E) E) E) E) E) E) E) E) E) E) E) E) E) E) E
theorem xe_12_2 : xf_12_2 = zEx xb_12_2 := by
  unfold xf_12_2 xb_12_2
  rfl
theorem xc_12_2 : zCd 12 [0, 2, 50, 77, 78, 84] 50 xb_12_2 := zc_iload_n xj_12 51 3 rfl rfl zf_ild_3 (zc_iconst xj_12 52 1 1 rfl rfl rfl (zc_iadd xj_12 53 rfl rfl (zc_iload_n xj_12 54 1 rfl rfl zf_ild_1 (zc_ic_ge xj_12 57 23 77 rfl rfl rfl (zc_aload_n xj_12 58 0 rfl rfl zf_ald_0 (zc_getf xj_12 61 35 1 6 42 rfl rfl (zf_getf_6 _) (zc_iload_n xj_12 62 3 rfl rfl zf_ild_3 (zc_aload_n xj_12 63 0 rfl rfl zf_ald_0 (zc_getf xj_12 66 35 1 6 42 rfl rfl (zf_getf_6 _) (zc_iload_n xj_12 67 3 rfl rfl zf_ild_3 (zc_iconst xj_12 68 1 1 rfl rfl rfl (zc_iadd xj_12 69 rfl rfl (zc_iaload xj_12 70 rfl rfl (zc_iastore xj_12 71 rfl rfl (zc_iinc xj_12 74 3 1 1 rfl rfl rfl (zf_inc_3 _) (zc_goto xj_12 75 (-24) 50 rfl rfl rfl (trivial)))))))))))))))))
noncomputable def xb_12_1 : List zF := zq_ildg zG2 :: zq_ildg zG1 :: zq_ic_ge 84 :: zq_aldg zG0 :: zq_ildg zG2 :: zq_ildg zG1 :: zq_calli 13 2 1 9 :: zq_if_eq 78 :: zq_aldg zG0 :: zq_aldg zG0 :: zq_getfg 1 zG6 :: zq_ildg zG2 :: zq_ildg zG1 :: zq_add :: zq_k 1 :: zq_sub :: zq_ildg zG1 :: zq_rem :: zq_ild_ 0 :: zq_aldg zG0 :: zq_getfg 1 zG6 :: zq_ildg zG2 :: zq_ild_ 0 :: zq_aldg zG0 :: zq_getfg 1 zG6 :: zq_ildg zG2 :: zq_k 1 :: zq_add :: zq_ildg zG1 :: zq_rem :: zq_ild_ 0 :: zq_calli 21 3 1 4 :: zq_ildg zG2 :: zq_istg zE3 :: xb_12_2
noncomputable def xf_12_1 : zE → zKn := fun E => zq_ildg zG2 (zq_ildg zG1 (zq_ic_ge 84 (zq_aldg zG0 (zq_ildg zG2 (zq_ildg zG1 (zq_calli 13 2 1 9 (zq_if_eq 78 (zq_aldg zG0 (zq_aldg zG0 (zq_getfg 1 zG6 (zq_ildg zG2 (zq_ildg zG1 (zq_add (zq_k 1 (zq_sub (zq_ildg zG1 (zq_rem (zq_ild_ 0 (zq_aldg zG0 (zq_getfg 1 zG6 (zq_ildg zG2 (zq_ild_ 0 (zq_aldg zG0 (zq_getfg 1 zG6 (zq_ildg zG2 (zq_k 1 (zq_add (zq_ildg zG1 (zq_rem (zq_ild_ 0 (zq_calli 21 3 1 4 (zq_ildg zG2 (zq_istg zE3 (xf_12_2 E) E) E) E) E) E) E) E) E) E) E) E) E) E) E) E) E) E) E) E) E) E) E) E) E) E) E) E) E) E) E) E) E) E) E
set_option maxRecDepth 100000 in
theorem xe_12_1 : xf_12_1 = zEx xb_12_1 := by
  unfold xf_12_1 xb_12_1
  rw [xe_12_2]
  rfl
theorem xc_12_1 : zCd 12 [0, 2, 50, 77, 78, 84] 2 xb_12_1 := zc_iload_n xj_12 3 2 rfl rfl zf_ild_2 (zc_iload_n xj_12 4 1 rfl rfl zf_ild_1 (zc_ic_ge xj_12 7 80 84 rfl rfl rfl (zc_aload_n xj_12 8 0 rfl rfl zf_ald_0 (zc_iload_n xj_12 9 2 rfl rfl zf_ild_2 (zc_iload_n xj_12 10 1 rfl rfl zf_ild_1 (zc_invokevirtual1 xj_12 13 139 13 2 74 1 9 rfl rfl rfl rfl (zc_if_eq xj_12 16 65 78 rfl rfl rfl (zc_aload_n xj_12 17 0 rfl rfl zf_ald_0 (zc_aload_n xj_12 18 0 rfl rfl zf_ald_0 (zc_getf xj_12 21 35 1 6 42 rfl rfl (zf_getf_6 _) (zc_iload_n xj_12 22 2 rfl rfl zf_ild_2 (zc_iload_n xj_12 23 1 rfl rfl zf_ild_1 (zc_iadd xj_12 24 rfl rfl (zc_iconst xj_12 25 1 1 rfl rfl rfl (zc_isub xj_12 26 rfl rfl (zc_iload_n xj_12 27 1 rfl rfl zf_ild_1 (zc_irem xj_12 28 rfl rfl (zc_iaload xj_12 29 rfl rfl (zc_aload_n xj_12 30 0 rfl rfl zf_ald_0 (zc_getf xj_12 33 35 1 6 42 rfl rfl (zf_getf_6 _) (zc_iload_n xj_12 34 2 rfl rfl zf_ild_2 (zc_iaload xj_12 35 rfl rfl (zc_aload_n xj_12 36 0 rfl rfl zf_ald_0 (zc_getf xj_12 39 35 1 6 42 rfl rfl (zf_getf_6 _) (zc_iload_n xj_12 40 2 rfl rfl zf_ild_2 (zc_iconst xj_12 41 1 1 rfl rfl rfl (zc_iadd xj_12 42 rfl rfl (zc_iload_n xj_12 43 1 rfl rfl zf_ild_1 (zc_irem xj_12 44 rfl rfl (zc_iaload xj_12 45 rfl rfl (zc_invokevirtual1 xj_12 48 119 21 3 56 1 4 rfl rfl rfl rfl (zc_iload_n xj_12 49 2 rfl rfl zf_ild_2 (zc_istore_n xj_12 50 3 rfl rfl zf_ist_3 (xc_12_2))))))))))))))))))))))))))))))))))
noncomputable def xb_12_0 : List zF := zq_k 0 :: zq_istg zE2 :: xb_12_1
noncomputable def xf_12_0 : zE → zKn := fun E => zq_k 0 (zq_istg zE2 (xf_12_1 E) E) E
theorem xe_12_0 : xf_12_0 = zEx xb_12_0 := by
  unfold xf_12_0 xb_12_0
  rw [xe_12_1]
  rfl
theorem xc_12_0 : zCd 12 [0, 2, 50, 77, 78, 84] 0 xb_12_0 := zc_iconst xj_12 1 0 0 rfl rfl rfl (zc_istore_n xj_12 2 2 rfl rfl zf_ist_2 (xc_12_1))
noncomputable def xm_12 : Lean.RArray (zE → zKn) := .branch 77 (.branch 2 (.leaf xf_12_0) (.branch 50 (.leaf xf_12_1) (.leaf xf_12_2))) (.branch 78 (.leaf xf_12_3) (.branch 84 (.leaf xf_12_4) (.leaf xf_12_5)))
theorem xa_12 : zCdAll 12 [0, 2, 50, 77, 78, 84] xm_12 := zAll2_ok (P := fun t => ∃ c, zCd 12 [0, 2, 50, 77, 78, 84] t c ∧ xm_12.get t = zEx c) ⟨⟨_, xc_12_0, xe_12_0⟩, ⟨_, xc_12_1, xe_12_1⟩, ⟨_, xc_12_2, xe_12_2⟩, ⟨_, xc_12_3, xe_12_3⟩, ⟨_, xc_12_4, xe_12_4⟩, ⟨_, xc_12_5, xe_12_5⟩, trivial⟩
/-- SquareMesh$Mesh.isEar -/
theorem xj_13 : ∀ pc, pI 13 pc = pJ_13 pc := fun _ => rfl
noncomputable def xb_13_7 : List zF := [zq_k 1, zq_iret 1]
noncomputable def xf_13_7 : zE → zKn := fun E => zq_k 1 (zq_iret 1 (zNil) E) E
theorem xe_13_7 : xf_13_7 = zEx xb_13_7 := by
  unfold xf_13_7 xb_13_7
  rfl
theorem xc_13_7 : zCd 13 [0, 50, 53, 88, 92, 93, 148, 154] 154 xb_13_7 := zc_iconst xj_13 155 1 1 rfl rfl rfl (zc_ireturn1 xj_13 156 rfl rfl (trivial))
noncomputable def xb_13_6 : List zF := [zq_incg zG6 zE6 1, zq_goto 53]
noncomputable def xf_13_6 : zE → zKn := fun E => zq_incg zG6 zE6 1 (zq_goto 53 (zNil) E) E
theorem xe_13_6 : xf_13_6 = zEx xb_13_6 := by
  unfold xf_13_6 xb_13_6
  rfl
theorem xc_13_6 : zCd 13 [0, 50, 53, 88, 92, 93, 148, 154] 148 xb_13_6 := zc_iinc xj_13 151 6 1 1 rfl rfl rfl (zf_inc_6 _) (zc_goto xj_13 152 (-98) 53 rfl rfl rfl (trivial))
noncomputable def xb_13_5 : List zF := [zq_istg zE8, zq_ildg zG8, zq_if_ne 148, zq_aldg zG0, zq_getfg 1 zG0, zq_ildg zG3, zq_ildg zG4, zq_ildg zG7, zq_calli 96 3 5 4, zq_if_lt 148, zq_aldg zG0, zq_getfg 1 zG0, zq_ildg zG4, zq_ildg zG5, zq_ildg zG7, zq_calli 96 3 5 4, zq_if_lt 148, zq_aldg zG0, zq_getfg 1 zG0, zq_ildg zG5, zq_ildg zG3, zq_ildg zG7, zq_calli 96 3 5 4, zq_if_lt 148, zq_k 0, zq_iret 1]
noncomputable def xf_13_5 : zE → zKn := fun E => zq_istg zE8 (zq_ildg zG8 (zq_if_ne 148 (zq_aldg zG0 (zq_getfg 1 zG0 (zq_ildg zG3 (zq_ildg zG4 (zq_ildg zG7 (zq_calli 96 3 5 4 (zq_if_lt 148 (zq_aldg zG0 (zq_getfg 1 zG0 (zq_ildg zG4 (zq_ildg zG5 (zq_ildg zG7 (zq_calli 96 3 5 4 (zq_if_lt 148 (zq_aldg zG0 (zq_getfg 1 zG0 (zq_ildg zG5 (zq_ildg zG3 (zq_ildg zG7 (zq_calli 96 3 5 4 (zq_if_lt 148 (zq_k 0 (zq_iret 1 (zNil) E) E) E) E) E) E) E) E) E) E) E) E) E) E) E) E) E) E) E) E) E) E) E) E) E) E
theorem xe_13_5 : xf_13_5 = zEx xb_13_5 := by
  unfold xf_13_5 xb_13_5
  rfl
theorem xc_13_5 : zCd 13 [0, 50, 53, 88, 92, 93, 148, 154] 93 xb_13_5 := zc_istore xj_13 95 8 rfl rfl zf_ist_8 (zc_iload xj_13 97 8 rfl rfl zf_ild_8 (zc_if_ne xj_13 100 51 148 rfl rfl rfl (zc_aload_n xj_13 101 0 rfl rfl zf_ald_0 (zc_getf xj_13 104 12 1 0 24 rfl rfl (zf_getf_0 _) (zc_iload_n xj_13 105 3 rfl rfl zf_ild_3 (zc_iload xj_13 107 4 rfl rfl zf_ild_4 (zc_iload xj_13 109 7 rfl rfl zf_ild_7 (zc_invokevirtual1 xj_13 112 115 96 3 54 5 4 rfl rfl rfl rfl (zc_if_lt xj_13 115 36 148 rfl rfl rfl (zc_aload_n xj_13 116 0 rfl rfl zf_ald_0 (zc_getf xj_13 119 12 1 0 24 rfl rfl (zf_getf_0 _) (zc_iload xj_13 121 4 rfl rfl zf_ild_4 (zc_iload xj_13 123 5 rfl rfl zf_ild_5 (zc_iload xj_13 125 7 rfl rfl zf_ild_7 (zc_invokevirtual1 xj_13 128 115 96 3 54 5 4 rfl rfl rfl rfl (zc_if_lt xj_13 131 20 148 rfl rfl rfl (zc_aload_n xj_13 132 0 rfl rfl zf_ald_0 (zc_getf xj_13 135 12 1 0 24 rfl rfl (zf_getf_0 _) (zc_iload xj_13 137 5 rfl rfl zf_ild_5 (zc_iload_n xj_13 138 3 rfl rfl zf_ild_3 (zc_iload xj_13 140 7 rfl rfl zf_ild_7 (zc_invokevirtual1 xj_13 143 115 96 3 54 5 4 rfl rfl rfl rfl (zc_if_lt xj_13 146 5 148 rfl rfl rfl (zc_iconst xj_13 147 0 0 rfl rfl rfl (zc_ireturn1 xj_13 148 rfl rfl (trivial))))))))))))))))))))))))))
noncomputable def xb_13_4 : List zF := zq_k 0 :: xb_13_5
noncomputable def xf_13_4 : zE → zKn := fun E => zq_k 0 (xf_13_5 E) E
theorem xe_13_4 : xf_13_4 = zEx xb_13_4 := by
  unfold xf_13_4 xb_13_4
  rw [xe_13_5]
  rfl
theorem xc_13_4 : zCd 13 [0, 50, 53, 88, 92, 93, 148, 154] 92 xb_13_4 := zc_iconst xj_13 93 0 0 rfl rfl rfl (xc_13_5)
noncomputable def xb_13_3 : List zF := [zq_k 1, zq_goto 93]
noncomputable def xf_13_3 : zE → zKn := fun E => zq_k 1 (zq_goto 93 (zNil) E) E
theorem xe_13_3 : xf_13_3 = zEx xb_13_3 := by
  unfold xf_13_3 xb_13_3
  rfl
theorem xc_13_3 : zCd 13 [0, 50, 53, 88, 92, 93, 148, 154] 88 xb_13_3 := zc_iconst xj_13 89 1 1 rfl rfl rfl (zc_goto xj_13 90 4 93 rfl rfl rfl (trivial))
noncomputable def xb_13_2 : List zF := zq_ildg zG6 :: zq_ildg zG2 :: zq_ic_ge 154 :: zq_aldg zG0 :: zq_getfg 1 zG6 :: zq_ildg zG6 :: zq_ild_ 0 :: zq_istg zE7 :: zq_ildg zG7 :: zq_ildg zG3 :: zq_ic_eq 88 :: zq_ildg zG7 :: zq_ildg zG4 :: zq_ic_eq 88 :: zq_ildg zG7 :: zq_ildg zG5 :: zq_ic_ne 92 :: xb_13_3
noncomputable def xf_13_2 : zE → zKn := fun E => zq_ildg zG6 (zq_ildg zG2 (zq_ic_ge 154 (zq_aldg zG0 (zq_getfg 1 zG6 (zq_ildg zG6 (zq_ild_ 0 (zq_istg zE7 (zq_ildg zG7 (zq_ildg zG3 (zq_ic_eq 88 (zq_ildg zG7 (zq_ildg zG4 (zq_ic_eq 88 (zq_ildg zG7 (zq_ildg zG5 (zq_ic_ne 92 (xf_13_3 E) E) E) E) E) E) E) E) E) E) E) E) E) E) E) E) E) E
theorem xe_13_2 : xf_13_2 = zEx xb_13_2 := by
  unfold xf_13_2 xb_13_2
  rw [xe_13_3]
  rfl
theorem xc_13_2 : zCd 13 [0, 50, 53, 88, 92, 93, 148, 154] 53 xb_13_2 := zc_iload xj_13 55 6 rfl rfl zf_ild_6 (zc_iload_n xj_13 56 2 rfl rfl zf_ild_2 (zc_ic_ge xj_13 59 98 154 rfl rfl rfl (zc_aload_n xj_13 60 0 rfl rfl zf_ald_0 (zc_getf xj_13 63 35 1 6 42 rfl rfl (zf_getf_6 _) (zc_iload xj_13 65 6 rfl rfl zf_ild_6 (zc_iaload xj_13 66 rfl rfl (zc_istore xj_13 68 7 rfl rfl zf_ist_7 (zc_iload xj_13 70 7 rfl rfl zf_ild_7 (zc_iload_n xj_13 71 3 rfl rfl zf_ild_3 (zc_ic_eq xj_13 74 17 88 rfl rfl rfl (zc_iload xj_13 76 7 rfl rfl zf_ild_7 (zc_iload xj_13 78 4 rfl rfl zf_ild_4 (zc_ic_eq xj_13 81 10 88 rfl rfl rfl (zc_iload xj_13 83 7 rfl rfl zf_ild_7 (zc_iload xj_13 85 5 rfl rfl zf_ild_5 (zc_ic_ne xj_13 88 7 92 rfl rfl rfl (xc_13_3)))))))))))))))))
noncomputable def xb_13_1 : List zF := zq_k 0 :: zq_istg zE6 :: xb_13_2
noncomputable def xf_13_1 : zE → zKn := fun E => zq_k 0 (zq_istg zE6 (xf_13_2 E) E) E
theorem xe_13_1 : xf_13_1 = zEx xb_13_1 := by
  unfold xf_13_1 xb_13_1
  rw [xe_13_2]
  rfl
theorem xc_13_1 : zCd 13 [0, 50, 53, 88, 92, 93, 148, 154] 50 xb_13_1 := zc_iconst xj_13 51 0 0 rfl rfl rfl (zc_istore xj_13 53 6 rfl rfl zf_ist_6 (xc_13_2))
noncomputable def xb_13_0 : List zF := [zq_aldg zG0, zq_getfg 1 zG6, zq_ildg zG1, zq_ildg zG2, zq_add, zq_k 1, zq_sub, zq_ildg zG2, zq_rem, zq_ild_ 0, zq_istg zE3, zq_aldg zG0, zq_getfg 1 zG6, zq_ildg zG1, zq_ild_ 0, zq_istg zE4, zq_aldg zG0, zq_getfg 1 zG6, zq_ildg zG1, zq_k 1, zq_add, zq_ildg zG2, zq_rem, zq_ild_ 0, zq_istg zE5, zq_aldg zG0, zq_getfg 1 zG0, zq_ildg zG3, zq_ildg zG4, zq_ildg zG5, zq_calli 96 3 5 4, zq_if_gt 50, zq_k 0, zq_iret 1]
noncomputable def xf_13_0 : zE → zKn := fun E => zq_aldg zG0 (zq_getfg 1 zG6 (zq_ildg zG1 (zq_ildg zG2 (zq_add (zq_k 1 (zq_sub (zq_ildg zG2 (zq_rem (zq_ild_ 0 (zq_istg zE3 (zq_aldg zG0 (zq_getfg 1 zG6 (zq_ildg zG1 (zq_ild_ 0 (zq_istg zE4 (zq_aldg zG0 (zq_getfg 1 zG6 (zq_ildg zG1 (zq_k 1 (zq_add (zq_ildg zG2 (zq_rem (zq_ild_ 0 (zq_istg zE5 (zq_aldg zG0 (zq_getfg 1 zG0 (zq_ildg zG3 (zq_ildg zG4 (zq_ildg zG5 (zq_calli 96 3 5 4 (zq_if_gt 50 (zq_k 0 (zq_iret 1 (zNil) E) E) E) E) E) E) E) E) E) E) E) E) E) E) E) E) E) E) E) E) E) E) E) E) E) E) E) E) E) E) E) E) E) E
set_option maxRecDepth 100000 in
theorem xe_13_0 : xf_13_0 = zEx xb_13_0 := by
  unfold xf_13_0 xb_13_0
  rfl
theorem xc_13_0 : zCd 13 [0, 50, 53, 88, 92, 93, 148, 154] 0 xb_13_0 := zc_aload_n xj_13 1 0 rfl rfl zf_ald_0 (zc_getf xj_13 4 35 1 6 42 rfl rfl (zf_getf_6 _) (zc_iload_n xj_13 5 1 rfl rfl zf_ild_1 (zc_iload_n xj_13 6 2 rfl rfl zf_ild_2 (zc_iadd xj_13 7 rfl rfl (zc_iconst xj_13 8 1 1 rfl rfl rfl (zc_isub xj_13 9 rfl rfl (zc_iload_n xj_13 10 2 rfl rfl zf_ild_2 (zc_irem xj_13 11 rfl rfl (zc_iaload xj_13 12 rfl rfl (zc_istore_n xj_13 13 3 rfl rfl zf_ist_3 (zc_aload_n xj_13 14 0 rfl rfl zf_ald_0 (zc_getf xj_13 17 35 1 6 42 rfl rfl (zf_getf_6 _) (zc_iload_n xj_13 18 1 rfl rfl zf_ild_1 (zc_iaload xj_13 19 rfl rfl (zc_istore xj_13 21 4 rfl rfl zf_ist_4 (zc_aload_n xj_13 22 0 rfl rfl zf_ald_0 (zc_getf xj_13 25 35 1 6 42 rfl rfl (zf_getf_6 _) (zc_iload_n xj_13 26 1 rfl rfl zf_ild_1 (zc_iconst xj_13 27 1 1 rfl rfl rfl (zc_iadd xj_13 28 rfl rfl (zc_iload_n xj_13 29 2 rfl rfl zf_ild_2 (zc_irem xj_13 30 rfl rfl (zc_iaload xj_13 31 rfl rfl (zc_istore xj_13 33 5 rfl rfl zf_ist_5 (zc_aload_n xj_13 34 0 rfl rfl zf_ald_0 (zc_getf xj_13 37 12 1 0 24 rfl rfl (zf_getf_0 _) (zc_iload_n xj_13 38 3 rfl rfl zf_ild_3 (zc_iload xj_13 40 4 rfl rfl zf_ild_4 (zc_iload xj_13 42 5 rfl rfl zf_ild_5 (zc_invokevirtual1 xj_13 45 115 96 3 54 5 4 rfl rfl rfl rfl (zc_if_gt xj_13 48 5 50 rfl rfl rfl (zc_iconst xj_13 49 0 0 rfl rfl rfl (zc_ireturn1 xj_13 50 rfl rfl (trivial))))))))))))))))))))))))))))))))))
noncomputable def xm_13 : Lean.RArray (zE → zKn) := .branch 92 (.branch 53 (.branch 50 (.leaf xf_13_0) (.leaf xf_13_1)) (.branch 88 (.leaf xf_13_2) (.leaf xf_13_3))) (.branch 148 (.branch 93 (.leaf xf_13_4) (.leaf xf_13_5)) (.branch 154 (.leaf xf_13_6) (.leaf xf_13_7)))
theorem xa_13 : zCdAll 13 [0, 50, 53, 88, 92, 93, 148, 154] xm_13 := zAll2_ok (P := fun t => ∃ c, zCd 13 [0, 50, 53, 88, 92, 93, 148, 154] t c ∧ xm_13.get t = zEx c) ⟨⟨_, xc_13_0, xe_13_0⟩, ⟨_, xc_13_1, xe_13_1⟩, ⟨_, xc_13_2, xe_13_2⟩, ⟨_, xc_13_3, xe_13_3⟩, ⟨_, xc_13_4, xe_13_4⟩, ⟨_, xc_13_5, xe_13_5⟩, ⟨_, xc_13_6, xe_13_6⟩, ⟨_, xc_13_7, xe_13_7⟩, trivial⟩
/-- SquareMesh$Mesh.canFix -/
theorem xj_14 : ∀ pc, pI 14 pc = pJ_14 pc := fun _ => rfl
noncomputable def xb_14_2 : List zF := [zq_iret 1]
noncomputable def xf_14_2 : zE → zKn := fun E => zq_iret 1 (zNil) E
theorem xe_14_2 : xf_14_2 = zEx xb_14_2 := by
  unfold xf_14_2 xb_14_2
  rfl
theorem xc_14_2 : zCd 14 [0, 25, 26] 26 xb_14_2 := zc_ireturn1 xj_14 27 rfl rfl (trivial)
noncomputable def xb_14_1 : List zF := zq_k 0 :: xb_14_2
noncomputable def xf_14_1 : zE → zKn := fun E => zq_k 0 (xf_14_2 E) E
theorem xe_14_1 : xf_14_1 = zEx xb_14_1 := by
  unfold xf_14_1 xb_14_1
  rw [xe_14_2]
  rfl
theorem xc_14_1 : zCd 14 [0, 25, 26] 25 xb_14_1 := zc_iconst xj_14 26 0 0 rfl rfl rfl (xc_14_2)
noncomputable def xb_14_0 : List zF := [zq_aldg zG0, zq_ildg zG1, zq_ildg zG2, zq_calli 47 2 1 6, zq_if_eq 25, zq_aldg zG0, zq_getfg 1 zG0, zq_ildg zG1, zq_ildg zG2, zq_calli 91 2 5 3, zq_if_ne 25, zq_k 1, zq_goto 26]
noncomputable def xf_14_0 : zE → zKn := fun E => zq_aldg zG0 (zq_ildg zG1 (zq_ildg zG2 (zq_calli 47 2 1 6 (zq_if_eq 25 (zq_aldg zG0 (zq_getfg 1 zG0 (zq_ildg zG1 (zq_ildg zG2 (zq_calli 91 2 5 3 (zq_if_ne 25 (zq_k 1 (zq_goto 26 (zNil) E) E) E) E) E) E) E) E) E) E) E) E) E
theorem xe_14_0 : xf_14_0 = zEx xb_14_0 := by
  unfold xf_14_0 xb_14_0
  rfl
theorem xc_14_0 : zCd 14 [0, 25, 26] 0 xb_14_0 := zc_aload_n xj_14 1 0 rfl rfl zf_ald_0 (zc_iload_n xj_14 2 1 rfl rfl zf_ild_1 (zc_iload_n xj_14 3 2 rfl rfl zf_ild_2 (zc_invokevirtual1 xj_14 6 142 47 2 81 1 6 rfl rfl rfl rfl (zc_if_eq xj_14 9 19 25 rfl rfl rfl (zc_aload_n xj_14 10 0 rfl rfl zf_ald_0 (zc_getf xj_14 13 12 1 0 24 rfl rfl (zf_getf_0 _) (zc_iload_n xj_14 14 1 rfl rfl zf_ild_1 (zc_iload_n xj_14 15 2 rfl rfl zf_ild_2 (zc_invokevirtual1 xj_14 18 122 91 2 58 5 3 rfl rfl rfl rfl (zc_if_ne xj_14 21 7 25 rfl rfl rfl (zc_iconst xj_14 22 1 1 rfl rfl rfl (zc_goto xj_14 23 4 26 rfl rfl rfl (trivial)))))))))))))
noncomputable def xm_14 : Lean.RArray (zE → zKn) := .branch 25 (.leaf xf_14_0) (.branch 26 (.leaf xf_14_1) (.leaf xf_14_2))
theorem xa_14 : zCdAll 14 [0, 25, 26] xm_14 := zAll2_ok (P := fun t => ∃ c, zCd 14 [0, 25, 26] t c ∧ xm_14.get t = zEx c) ⟨⟨_, xc_14_0, xe_14_0⟩, ⟨_, xc_14_1, xe_14_1⟩, ⟨_, xc_14_2, xe_14_2⟩, trivial⟩
/-- SquareMesh$Mesh.fixEdge -/
theorem xj_15 : ∀ pc, pI 15 pc = pJ_15 pc := fun _ => rfl
noncomputable def xb_15_2 : List zF := [zq_aldg zG0, zq_getfg 1 zG0, zq_ildg zG1, zq_ildg zG2, zq_calli 92 2 5 3, zq_aldg zG0, zq_calli 23 0 1 4, zq_vret]
noncomputable def xf_15_2 : zE → zKn := fun E => zq_aldg zG0 (zq_getfg 1 zG0 (zq_ildg zG1 (zq_ildg zG2 (zq_calli 92 2 5 3 (zq_aldg zG0 (zq_calli 23 0 1 4 (zq_vret (zNil) E) E) E) E) E) E) E) E
theorem xe_15_2 : xf_15_2 = zEx xb_15_2 := by
  unfold xf_15_2 xb_15_2
  rfl
theorem xc_15_2 : zCd 15 [0, 8, 39] 39 xb_15_2 := zc_aload_n xj_15 40 0 rfl rfl zf_ald_0 (zc_getf xj_15 43 12 1 0 24 rfl rfl (zf_getf_0 _) (zc_iload_n xj_15 44 1 rfl rfl zf_ild_1 (zc_iload_n xj_15 45 2 rfl rfl zf_ild_2 (zc_invokevirtual1 xj_15 48 61 92 2 21 5 3 rfl rfl rfl rfl (zc_aload_n xj_15 49 0 rfl rfl zf_ald_0 (zc_invokevirtual1 xj_15 52 112 23 0 60 1 4 rfl rfl rfl rfl (zc_return_ xj_15 53 rfl rfl (trivial))))))))
noncomputable def xb_15_1 : List zF := [zq_ildg zG3, zq_k 1000000, zq_ic_ge 39, zq_aldg zG0, zq_ildg zG1, zq_ildg zG2, zq_calli 36 2 1 3, zq_if_ne 39, zq_aldg zG0, zq_ildg zG1, zq_ildg zG2, zq_calli 16 2 1 9, zq_aldg zG0, zq_calli 31 0 1 4, zq_incg zG3 zE3 1, zq_goto 8]
noncomputable def xf_15_1 : zE → zKn := fun E => zq_ildg zG3 (zq_k 1000000 (zq_ic_ge 39 (zq_aldg zG0 (zq_ildg zG1 (zq_ildg zG2 (zq_calli 36 2 1 3 (zq_if_ne 39 (zq_aldg zG0 (zq_ildg zG1 (zq_ildg zG2 (zq_calli 16 2 1 9 (zq_aldg zG0 (zq_calli 31 0 1 4 (zq_incg zG3 zE3 1 (zq_goto 8 (zNil) E) E) E) E) E) E) E) E) E) E) E) E) E) E) E) E
theorem xe_15_1 : xf_15_1 = zEx xb_15_1 := by
  unfold xf_15_1 xb_15_1
  rfl
theorem xc_15_1 : zCd 15 [0, 8, 39] 8 xb_15_1 := zc_iload_n xj_15 9 3 rfl rfl zf_ild_3 (zc_ldc xj_15 11 148 1000000 0 rfl rfl rfl (zc_ic_ge xj_15 14 28 39 rfl rfl rfl (zc_aload_n xj_15 15 0 rfl rfl zf_ald_0 (zc_iload_n xj_15 16 1 rfl rfl zf_ild_1 (zc_iload_n xj_15 17 2 rfl rfl zf_ild_2 (zc_invokevirtual1 xj_15 20 149 36 2 71 1 3 rfl rfl rfl rfl (zc_if_ne xj_15 23 19 39 rfl rfl rfl (zc_aload_n xj_15 24 0 rfl rfl zf_ald_0 (zc_iload_n xj_15 25 1 rfl rfl zf_ild_1 (zc_iload_n xj_15 26 2 rfl rfl zf_ild_2 (zc_invokevirtual1 xj_15 29 152 16 2 91 1 9 rfl rfl rfl rfl (zc_aload_n xj_15 30 0 rfl rfl zf_ald_0 (zc_invokevirtual1 xj_15 33 71 31 0 24 1 4 rfl rfl rfl rfl (zc_iinc xj_15 36 3 1 1 rfl rfl rfl (zf_inc_3 _) (zc_goto xj_15 37 (-28) 8 rfl rfl rfl (trivial))))))))))))))))
noncomputable def xb_15_0 : List zF := zq_aldg zG0 :: zq_ildg zG1 :: zq_ildg zG2 :: zq_calli 28 2 1 4 :: zq_k 0 :: zq_istg zE3 :: xb_15_1
noncomputable def xf_15_0 : zE → zKn := fun E => zq_aldg zG0 (zq_ildg zG1 (zq_ildg zG2 (zq_calli 28 2 1 4 (zq_k 0 (zq_istg zE3 (xf_15_1 E) E) E) E) E) E) E
theorem xe_15_0 : xf_15_0 = zEx xb_15_0 := by
  unfold xf_15_0 xb_15_0
  rw [xe_15_1]
  rfl
theorem xc_15_0 : zCd 15 [0, 8, 39] 0 xb_15_0 := zc_aload_n xj_15 1 0 rfl rfl zf_ald_0 (zc_iload_n xj_15 2 1 rfl rfl zf_ild_1 (zc_iload_n xj_15 3 2 rfl rfl zf_ild_2 (zc_invokevirtual1 xj_15 6 145 28 2 89 1 4 rfl rfl rfl rfl (zc_iconst xj_15 7 0 0 rfl rfl rfl (zc_istore_n xj_15 8 3 rfl rfl zf_ist_3 (xc_15_1))))))
noncomputable def xm_15 : Lean.RArray (zE → zKn) := .branch 8 (.leaf xf_15_0) (.branch 39 (.leaf xf_15_1) (.leaf xf_15_2))
theorem xa_15 : zCdAll 15 [0, 8, 39] xm_15 := zAll2_ok (P := fun t => ∃ c, zCd 15 [0, 8, 39] t c ∧ xm_15.get t = zEx c) ⟨⟨_, xc_15_0, xe_15_0⟩, ⟨_, xc_15_1, xe_15_1⟩, ⟨_, xc_15_2, xe_15_2⟩, trivial⟩
/-- SquareMesh$Mesh.flipCrossing -/
theorem xj_16 : ∀ pc, pI 16 pc = pJ_16 pc := fun _ => rfl
noncomputable def xb_16_5 : List zF := [zq_vret]
noncomputable def xf_16_5 : zE → zKn := fun E => zq_vret (zNil) E
theorem xe_16_5 : xf_16_5 = zEx xb_16_5 := by
  unfold xf_16_5 xb_16_5
  rfl
theorem xc_16_5 : zCd 16 [0, 2, 94, 95, 152, 158] 158 xb_16_5 := zc_return_ xj_16 159 rfl rfl (trivial)
noncomputable def xb_16_4 : List zF := [zq_incg zG3 zE3 1, zq_goto 2]
noncomputable def xf_16_4 : zE → zKn := fun E => zq_incg zG3 zE3 1 (zq_goto 2 (zNil) E) E
theorem xe_16_4 : xf_16_4 = zEx xb_16_4 := by
  unfold xf_16_4 xb_16_4
  rfl
theorem xc_16_4 : zCd 16 [0, 2, 94, 95, 152, 158] 152 xb_16_4 := zc_iinc xj_16 155 3 1 1 rfl rfl rfl (zf_inc_3 _) (zc_goto xj_16 156 (-153) 2 rfl rfl rfl (trivial))
noncomputable def xb_16_3 : List zF := zq_istg zE8 :: zq_ildg zG8 :: zq_if_eq 152 :: zq_aldg zG0 :: zq_ildg zG4 :: zq_ildg zG5 :: zq_ildg zG6 :: zq_aldg zG0 :: zq_getfg 1 zG0 :: zq_getfg 5 zG0 :: zq_ildg zG7 :: zq_ild_ 0 :: zq_aldg zG0 :: zq_getfg 1 zG0 :: zq_getfg 5 zG1 :: zq_ildg zG7 :: zq_ild_ 0 :: zq_aldg zG0 :: zq_getfg 1 zG9 :: zq_ildg zG7 :: zq_ild_ 1 :: zq_calli 29 6 1 20 :: zq_kl 0 :: zq_lcmp :: zq_if_le 152 :: zq_aldg zG0 :: zq_ildg zG4 :: zq_ildg zG5 :: zq_calli 24 2 1 5 :: xb_16_4
noncomputable def xf_16_3 : zE → zKn := fun E => zq_istg zE8 (zq_ildg zG8 (zq_if_eq 152 (zq_aldg zG0 (zq_ildg zG4 (zq_ildg zG5 (zq_ildg zG6 (zq_aldg zG0 (zq_getfg 1 zG0 (zq_getfg 5 zG0 (zq_ildg zG7 (zq_ild_ 0 (zq_aldg zG0 (zq_getfg 1 zG0 (zq_getfg 5 zG1 (zq_ildg zG7 (zq_ild_ 0 (zq_aldg zG0 (zq_getfg 1 zG9 (zq_ildg zG7 (zq_ild_ 1 (zq_calli 29 6 1 20 (zq_kl 0 (zq_lcmp (zq_if_le 152 (zq_aldg zG0 (zq_ildg zG4 (zq_ildg zG5 (zq_calli 24 2 1 5 (xf_16_4 E) E) E) E) E) E) E) E) E) E) E) E) E) E) E) E) E) E) E) E) E) E) E) E) E) E) E) E) E) E
theorem xe_16_3 : xf_16_3 = zEx xb_16_3 := by
  unfold xf_16_3 xb_16_3
  rw [xe_16_4]
  rfl
theorem xc_16_3 : zCd 16 [0, 2, 94, 95, 152, 158] 95 xb_16_3 := zc_istore xj_16 97 8 rfl rfl zf_ist_8 (zc_iload xj_16 99 8 rfl rfl zf_ild_8 (zc_if_eq xj_16 102 53 152 rfl rfl rfl (zc_aload_n xj_16 103 0 rfl rfl zf_ald_0 (zc_iload xj_16 105 4 rfl rfl zf_ild_4 (zc_iload xj_16 107 5 rfl rfl zf_ild_5 (zc_iload xj_16 109 6 rfl rfl zf_ild_6 (zc_aload_n xj_16 110 0 rfl rfl zf_ald_0 (zc_getf xj_16 113 12 1 0 24 rfl rfl (zf_getf_0 _) (zc_getf xj_16 116 162 5 0 2 rfl rfl (zf_getf_0 _) (zc_iload xj_16 118 7 rfl rfl zf_ild_7 (zc_iaload xj_16 119 rfl rfl (zc_aload_n xj_16 120 0 rfl rfl zf_ald_0 (zc_getf xj_16 123 12 1 0 24 rfl rfl (zf_getf_0 _) (zc_getf xj_16 126 165 5 1 5 rfl rfl (zf_getf_1 _) (zc_iload xj_16 128 7 rfl rfl zf_ild_7 (zc_iaload xj_16 129 rfl rfl (zc_aload_n xj_16 130 0 rfl rfl zf_ald_0 (zc_getf xj_16 133 38 1 9 52 rfl rfl (zf_getf_9 _) (zc_iload xj_16 135 7 rfl rfl zf_ild_7 (zc_laload xj_16 136 rfl rfl (zc_invokevirtual1 xj_16 139 168 29 6 63 1 20 rfl rfl rfl rfl (zc_lconst xj_16 140 0 rfl rfl (zc_lcmp xj_16 141 rfl rfl (zc_if_le xj_16 144 11 152 rfl rfl rfl (zc_aload_n xj_16 145 0 rfl rfl zf_ald_0 (zc_iload xj_16 147 4 rfl rfl zf_ild_4 (zc_iload xj_16 149 5 rfl rfl zf_ild_5 (zc_invokevirtual1 xj_16 152 172 24 2 65 1 5 rfl rfl rfl rfl (xc_16_4)))))))))))))))))))))))))))))
noncomputable def xb_16_2 : List zF := zq_k 0 :: xb_16_3
noncomputable def xf_16_2 : zE → zKn := fun E => zq_k 0 (xf_16_3 E) E
theorem xe_16_2 : xf_16_2 = zEx xb_16_2 := by
  unfold xf_16_2 xb_16_2
  rw [xe_16_3]
  rfl
theorem xc_16_2 : zCd 16 [0, 2, 94, 95, 152, 158] 94 xb_16_2 := zc_iconst xj_16 95 0 0 rfl rfl rfl (xc_16_3)
noncomputable def xb_16_1 : List zF := [zq_ildg zG3, zq_aldg zG0, zq_getfg 1 zG8, zq_ic_ge 158, zq_aldg zG0, zq_getfg 1 zG4, zq_k 2, zq_ildg zG3, zq_mul, zq_ild_ 0, zq_istg zE4, zq_aldg zG0, zq_getfg 1 zG4, zq_k 2, zq_ildg zG3, zq_mul, zq_k 1, zq_add, zq_ild_ 0, zq_istg zE5, zq_aldg zG0, zq_getfg 1 zG1, zq_ildg zG4, zq_k 40, zq_mul, zq_ildg zG5, zq_add, zq_ild_ 0, zq_istg zE6, zq_aldg zG0, zq_getfg 1 zG1, zq_ildg zG5, zq_k 40, zq_mul, zq_ildg zG4, zq_add, zq_ild_ 0, zq_istg zE7, zq_ildg zG6, zq_k 4294967295, zq_ic_eq 94, zq_ildg zG7, zq_k 4294967295, zq_ic_eq 94, zq_aldg zG0, zq_getfg 1 zG0, zq_ildg zG4, zq_ildg zG5, zq_ildg zG1, zq_ildg zG2, zq_calli 101 4 5 5, zq_if_eq 94, zq_k 1, zq_goto 95]
noncomputable def xf_16_1 : zE → zKn := fun E => zq_ildg zG3 (zq_aldg zG0 (zq_getfg 1 zG8 (zq_ic_ge 158 (zq_aldg zG0 (zq_getfg 1 zG4 (zq_k 2 (zq_ildg zG3 (zq_mul (zq_ild_ 0 (zq_istg zE4 (zq_aldg zG0 (zq_getfg 1 zG4 (zq_k 2 (zq_ildg zG3 (zq_mul (zq_k 1 (zq_add (zq_ild_ 0 (zq_istg zE5 (zq_aldg zG0 (zq_getfg 1 zG1 (zq_ildg zG4 (zq_k 40 (zq_mul (zq_ildg zG5 (zq_add (zq_ild_ 0 (zq_istg zE6 (zq_aldg zG0 (zq_getfg 1 zG1 (zq_ildg zG5 (zq_k 40 (zq_mul (zq_ildg zG4 (zq_add (zq_ild_ 0 (zq_istg zE7 (zq_ildg zG6 (zq_k 4294967295 (zq_ic_eq 94 (zq_ildg zG7 (zq_k 4294967295 (zq_ic_eq 94 (zq_aldg zG0 (zq_getfg 1 zG0 (zq_ildg zG4 (zq_ildg zG5 (zq_ildg zG1 (zq_ildg zG2 (zq_calli 101 4 5 5 (zq_if_eq 94 (zq_k 1 (zq_goto 95 (zNil) E) E) E) E) E) E) E) E) E) E) E) E) E) E) E) E) E) E) E) E) E) E) E) E) E) E) E) E) E) E) E) E) E) E) E) E) E) E) E) E) E) E) E) E) E) E) E) E) E) E) E) E) E) E
set_option maxRecDepth 100000 in
theorem xe_16_1 : xf_16_1 = zEx xb_16_1 := by
  unfold xf_16_1 xb_16_1
  rfl
theorem xc_16_1 : zCd 16 [0, 2, 94, 95, 152, 158] 2 xb_16_1 := zc_iload_n xj_16 3 3 rfl rfl zf_ild_3 (zc_aload_n xj_16 4 0 rfl rfl zf_ald_0 (zc_getf xj_16 7 155 1 8 50 rfl rfl (zf_getf_8 _) (zc_ic_ge xj_16 10 151 158 rfl rfl rfl (zc_aload_n xj_16 11 0 rfl rfl zf_ald_0 (zc_getf xj_16 14 28 1 4 35 rfl rfl (zf_getf_4 _) (zc_iconst xj_16 15 2 2 rfl rfl rfl (zc_iload_n xj_16 16 3 rfl rfl zf_ild_3 (zc_imul xj_16 17 rfl rfl (zc_iaload xj_16 18 rfl rfl (zc_istore xj_16 20 4 rfl rfl zf_ist_4 (zc_aload_n xj_16 21 0 rfl rfl zf_ald_0 (zc_getf xj_16 24 28 1 4 35 rfl rfl (zf_getf_4 _) (zc_iconst xj_16 25 2 2 rfl rfl rfl (zc_iload_n xj_16 26 3 rfl rfl zf_ild_3 (zc_imul xj_16 27 rfl rfl (zc_iconst xj_16 28 1 1 rfl rfl rfl (zc_iadd xj_16 29 rfl rfl (zc_iaload xj_16 30 rfl rfl (zc_istore xj_16 32 5 rfl rfl zf_ist_5 (zc_aload_n xj_16 33 0 rfl rfl zf_ald_0 (zc_getf xj_16 36 18 1 1 29 rfl rfl (zf_getf_1 _) (zc_iload xj_16 38 4 rfl rfl zf_ild_4 (zc_bipush xj_16 40 40 40 rfl rfl rfl (zc_imul xj_16 41 rfl rfl (zc_iload xj_16 43 5 rfl rfl zf_ild_5 (zc_iadd xj_16 44 rfl rfl (zc_iaload xj_16 45 rfl rfl (zc_istore xj_16 47 6 rfl rfl zf_ist_6 (zc_aload_n xj_16 48 0 rfl rfl zf_ald_0 (zc_getf xj_16 51 18 1 1 29 rfl rfl (zf_getf_1 _) (zc_iload xj_16 53 5 rfl rfl zf_ild_5 (zc_bipush xj_16 55 40 40 rfl rfl rfl (zc_imul xj_16 56 rfl rfl (zc_iload xj_16 58 4 rfl rfl zf_ild_4 (zc_iadd xj_16 59 rfl rfl (zc_iaload xj_16 60 rfl rfl (zc_istore xj_16 62 7 rfl rfl zf_ist_7 (zc_iload xj_16 64 6 rfl rfl zf_ild_6 (zc_iconst xj_16 65 (-1) 4294967295 rfl rfl rfl (zc_ic_eq xj_16 68 29 94 rfl rfl rfl (zc_iload xj_16 70 7 rfl rfl zf_ild_7 (zc_iconst xj_16 71 (-1) 4294967295 rfl rfl rfl (zc_ic_eq xj_16 74 23 94 rfl rfl rfl (zc_aload_n xj_16 75 0 rfl rfl zf_ald_0 (zc_getf xj_16 78 12 1 0 24 rfl rfl (zf_getf_0 _) (zc_iload xj_16 80 4 rfl rfl zf_ild_4 (zc_iload xj_16 82 5 rfl rfl zf_ild_5 (zc_iload_n xj_16 83 1 rfl rfl zf_ild_1 (zc_iload_n xj_16 84 2 rfl rfl zf_ild_2 (zc_invokevirtual1 xj_16 87 158 101 4 84 5 5 rfl rfl rfl rfl (zc_if_eq xj_16 90 7 94 rfl rfl rfl (zc_iconst xj_16 91 1 1 rfl rfl rfl (zc_goto xj_16 92 4 95 rfl rfl rfl (trivial))))))))))))))))))))))))))))))))))))))))))))))))))))))
noncomputable def xb_16_0 : List zF := zq_k 0 :: zq_istg zE3 :: xb_16_1
noncomputable def xf_16_0 : zE → zKn := fun E => zq_k 0 (zq_istg zE3 (xf_16_1 E) E) E
theorem xe_16_0 : xf_16_0 = zEx xb_16_0 := by
  unfold xf_16_0 xb_16_0
  rw [xe_16_1]
  rfl
theorem xc_16_0 : zCd 16 [0, 2, 94, 95, 152, 158] 0 xb_16_0 := zc_iconst xj_16 1 0 0 rfl rfl rfl (zc_istore_n xj_16 2 3 rfl rfl zf_ist_3 (xc_16_1))
noncomputable def xm_16 : Lean.RArray (zE → zKn) := .branch 95 (.branch 2 (.leaf xf_16_0) (.branch 94 (.leaf xf_16_1) (.leaf xf_16_2))) (.branch 152 (.leaf xf_16_3) (.branch 158 (.leaf xf_16_4) (.leaf xf_16_5)))
theorem xa_16 : zCdAll 16 [0, 2, 94, 95, 152, 158] xm_16 := zAll2_ok (P := fun t => ∃ c, zCd 16 [0, 2, 94, 95, 152, 158] t c ∧ xm_16.get t = zEx c) ⟨⟨_, xc_16_0, xe_16_0⟩, ⟨_, xc_16_1, xe_16_1⟩, ⟨_, xc_16_2, xe_16_2⟩, ⟨_, xc_16_3, xe_16_3⟩, ⟨_, xc_16_4, xe_16_4⟩, ⟨_, xc_16_5, xe_16_5⟩, trivial⟩
/-- SquareMesh$Mesh.canFree -/
theorem xj_17 : ∀ pc, pI 17 pc = pJ_17 pc := fun _ => rfl
noncomputable def xb_17_2 : List zF := [zq_aldg zG0, zq_ildg zG1, zq_ildg zG2, zq_calli 25 2 1 3, zq_iret 1]
noncomputable def xf_17_2 : zE → zKn := fun E => zq_aldg zG0 (zq_ildg zG1 (zq_ildg zG2 (zq_calli 25 2 1 3 (zq_iret 1 (zNil) E) E) E) E) E
theorem xe_17_2 : xf_17_2 = zEx xb_17_2 := by
  unfold xf_17_2 xb_17_2
  rfl
theorem xc_17_2 : zCd 17 [0, 34, 36] 36 xb_17_2 := zc_aload_n xj_17 37 0 rfl rfl zf_ald_0 (zc_iload_n xj_17 38 1 rfl rfl zf_ild_1 (zc_iload_n xj_17 39 2 rfl rfl zf_ild_2 (zc_invokevirtual1 xj_17 42 179 25 2 61 1 3 rfl rfl rfl rfl (zc_ireturn1 xj_17 43 rfl rfl (trivial)))))
noncomputable def xb_17_1 : List zF := [zq_k 0, zq_iret 1]
noncomputable def xf_17_1 : zE → zKn := fun E => zq_k 0 (zq_iret 1 (zNil) E) E
theorem xe_17_1 : xf_17_1 = zEx xb_17_1 := by
  unfold xf_17_1 xb_17_1
  rfl
theorem xc_17_1 : zCd 17 [0, 34, 36] 34 xb_17_1 := zc_iconst xj_17 35 0 0 rfl rfl rfl (zc_ireturn1 xj_17 36 rfl rfl (trivial))
noncomputable def xb_17_0 : List zF := zq_aldg zG0 :: zq_getfg 1 zG0 :: zq_ildg zG1 :: zq_calli 82 1 5 2 :: zq_if_eq 34 :: zq_aldg zG0 :: zq_getfg 1 zG0 :: zq_ildg zG2 :: zq_calli 82 1 5 2 :: zq_if_eq 34 :: zq_aldg zG0 :: zq_getfg 1 zG0 :: zq_ildg zG1 :: zq_ildg zG2 :: zq_calli 91 2 5 3 :: zq_if_ne 36 :: xb_17_1
noncomputable def xf_17_0 : zE → zKn := fun E => zq_aldg zG0 (zq_getfg 1 zG0 (zq_ildg zG1 (zq_calli 82 1 5 2 (zq_if_eq 34 (zq_aldg zG0 (zq_getfg 1 zG0 (zq_ildg zG2 (zq_calli 82 1 5 2 (zq_if_eq 34 (zq_aldg zG0 (zq_getfg 1 zG0 (zq_ildg zG1 (zq_ildg zG2 (zq_calli 91 2 5 3 (zq_if_ne 36 (xf_17_1 E) E) E) E) E) E) E) E) E) E) E) E) E) E) E) E) E
theorem xe_17_0 : xf_17_0 = zEx xb_17_0 := by
  unfold xf_17_0 xb_17_0
  rw [xe_17_1]
  rfl
theorem xc_17_0 : zCd 17 [0, 34, 36] 0 xb_17_0 := zc_aload_n xj_17 1 0 rfl rfl zf_ald_0 (zc_getf xj_17 4 12 1 0 24 rfl rfl (zf_getf_0 _) (zc_iload_n xj_17 5 1 rfl rfl zf_ild_1 (zc_invokevirtual1 xj_17 8 175 82 1 26 5 2 rfl rfl rfl rfl (zc_if_eq xj_17 11 26 34 rfl rfl rfl (zc_aload_n xj_17 12 0 rfl rfl zf_ald_0 (zc_getf xj_17 15 12 1 0 24 rfl rfl (zf_getf_0 _) (zc_iload_n xj_17 16 2 rfl rfl zf_ild_2 (zc_invokevirtual1 xj_17 19 175 82 1 26 5 2 rfl rfl rfl rfl (zc_if_eq xj_17 22 15 34 rfl rfl rfl (zc_aload_n xj_17 23 0 rfl rfl zf_ald_0 (zc_getf xj_17 26 12 1 0 24 rfl rfl (zf_getf_0 _) (zc_iload_n xj_17 27 1 rfl rfl zf_ild_1 (zc_iload_n xj_17 28 2 rfl rfl zf_ild_2 (zc_invokevirtual1 xj_17 31 122 91 2 58 5 3 rfl rfl rfl rfl (zc_if_ne xj_17 34 5 36 rfl rfl rfl (xc_17_1))))))))))))))))
noncomputable def xm_17 : Lean.RArray (zE → zKn) := .branch 34 (.leaf xf_17_0) (.branch 36 (.leaf xf_17_1) (.leaf xf_17_2))
theorem xa_17 : zCdAll 17 [0, 34, 36] xm_17 := zAll2_ok (P := fun t => ∃ c, zCd 17 [0, 34, 36] t c ∧ xm_17.get t = zEx c) ⟨⟨_, xc_17_0, xe_17_0⟩, ⟨_, xc_17_1, xe_17_1⟩, ⟨_, xc_17_2, xe_17_2⟩, trivial⟩
/-- SquareMesh$Mesh.freeEdge -/
theorem xj_18 : ∀ pc, pI 18 pc = pJ_18 pc := fun _ => rfl
noncomputable def xb_18_0 : List zF := [zq_aldg zG0, zq_getfg 1 zG0, zq_ildg zG1, zq_ildg zG2, zq_calli 93 2 5 3, zq_aldg zG0, zq_ildg zG1, zq_ildg zG2, zq_calli 22 2 1 5, zq_aldg zG0, zq_calli 23 0 1 4, zq_vret]
noncomputable def xf_18_0 : zE → zKn := fun E => zq_aldg zG0 (zq_getfg 1 zG0 (zq_ildg zG1 (zq_ildg zG2 (zq_calli 93 2 5 3 (zq_aldg zG0 (zq_ildg zG1 (zq_ildg zG2 (zq_calli 22 2 1 5 (zq_aldg zG0 (zq_calli 23 0 1 4 (zq_vret (zNil) E) E) E) E) E) E) E) E) E) E) E) E
theorem xe_18_0 : xf_18_0 = zEx xb_18_0 := by
  unfold xf_18_0 xb_18_0
  rfl
theorem xc_18_0 : zCd 18 [0] 0 xb_18_0 := zc_aload_n xj_18 1 0 rfl rfl zf_ald_0 (zc_getf xj_18 4 12 1 0 24 rfl rfl (zf_getf_0 _) (zc_iload_n xj_18 5 1 rfl rfl zf_ild_1 (zc_iload_n xj_18 6 2 rfl rfl zf_ild_2 (zc_invokevirtual1 xj_18 9 125 93 2 59 5 3 rfl rfl rfl rfl (zc_aload_n xj_18 10 0 rfl rfl zf_ald_0 (zc_iload_n xj_18 11 1 rfl rfl zf_ild_1 (zc_iload_n xj_18 12 2 rfl rfl zf_ild_2 (zc_invokevirtual1 xj_18 15 182 22 2 57 1 5 rfl rfl rfl rfl (zc_aload_n xj_18 16 0 rfl rfl zf_ald_0 (zc_invokevirtual1 xj_18 19 112 23 0 60 1 4 rfl rfl rfl rfl (zc_return_ xj_18 20 rfl rfl (trivial))))))))))))
noncomputable def xm_18 : Lean.RArray (zE → zKn) := .leaf xf_18_0
theorem xa_18 : zCdAll 18 [0] xm_18 := zAll2_ok (P := fun t => ∃ c, zCd 18 [0] t c ∧ xm_18.get t = zEx c) ⟨⟨_, xc_18_0, xe_18_0⟩, trivial⟩
/-- SquareMesh$Mesh.lay -/
theorem xj_19 : ∀ pc, pI 19 pc = pJ_19 pc := fun _ => rfl
noncomputable def xb_19_0 : List zF := [zq_aldg zG0, zq_getfg 1 zG1, zq_ildg zG1, zq_k 40, zq_mul, zq_ildg zG2, zq_add, zq_ildg zG3, zq_iast, zq_aldg zG0, zq_getfg 1 zG1, zq_ildg zG2, zq_k 40, zq_mul, zq_ildg zG3, zq_add, zq_ildg zG1, zq_iast, zq_aldg zG0, zq_getfg 1 zG1, zq_ildg zG3, zq_k 40, zq_mul, zq_ildg zG1, zq_add, zq_ildg zG2, zq_iast, zq_vret]
noncomputable def xf_19_0 : zE → zKn := fun E => zq_aldg zG0 (zq_getfg 1 zG1 (zq_ildg zG1 (zq_k 40 (zq_mul (zq_ildg zG2 (zq_add (zq_ildg zG3 (zq_iast (zq_aldg zG0 (zq_getfg 1 zG1 (zq_ildg zG2 (zq_k 40 (zq_mul (zq_ildg zG3 (zq_add (zq_ildg zG1 (zq_iast (zq_aldg zG0 (zq_getfg 1 zG1 (zq_ildg zG3 (zq_k 40 (zq_mul (zq_ildg zG1 (zq_add (zq_ildg zG2 (zq_iast (zq_vret (zNil) E) E) E) E) E) E) E) E) E) E) E) E) E) E) E) E) E) E) E) E) E) E) E) E) E) E) E) E
theorem xe_19_0 : xf_19_0 = zEx xb_19_0 := by
  unfold xf_19_0 xb_19_0
  rfl
theorem xc_19_0 : zCd 19 [0] 0 xb_19_0 := zc_aload_n xj_19 1 0 rfl rfl zf_ald_0 (zc_getf xj_19 4 18 1 1 29 rfl rfl (zf_getf_1 _) (zc_iload_n xj_19 5 1 rfl rfl zf_ild_1 (zc_bipush xj_19 7 40 40 rfl rfl rfl (zc_imul xj_19 8 rfl rfl (zc_iload_n xj_19 9 2 rfl rfl zf_ild_2 (zc_iadd xj_19 10 rfl rfl (zc_iload_n xj_19 11 3 rfl rfl zf_ild_3 (zc_iastore xj_19 12 rfl rfl (zc_aload_n xj_19 13 0 rfl rfl zf_ald_0 (zc_getf xj_19 16 18 1 1 29 rfl rfl (zf_getf_1 _) (zc_iload_n xj_19 17 2 rfl rfl zf_ild_2 (zc_bipush xj_19 19 40 40 rfl rfl rfl (zc_imul xj_19 20 rfl rfl (zc_iload_n xj_19 21 3 rfl rfl zf_ild_3 (zc_iadd xj_19 22 rfl rfl (zc_iload_n xj_19 23 1 rfl rfl zf_ild_1 (zc_iastore xj_19 24 rfl rfl (zc_aload_n xj_19 25 0 rfl rfl zf_ald_0 (zc_getf xj_19 28 18 1 1 29 rfl rfl (zf_getf_1 _) (zc_iload_n xj_19 29 3 rfl rfl zf_ild_3 (zc_bipush xj_19 31 40 40 rfl rfl rfl (zc_imul xj_19 32 rfl rfl (zc_iload_n xj_19 33 1 rfl rfl zf_ild_1 (zc_iadd xj_19 34 rfl rfl (zc_iload_n xj_19 35 2 rfl rfl zf_ild_2 (zc_iastore xj_19 36 rfl rfl (zc_return_ xj_19 37 rfl rfl (trivial))))))))))))))))))))))))))))
noncomputable def xm_19 : Lean.RArray (zE → zKn) := .leaf xf_19_0
theorem xa_19 : zCdAll 19 [0] xm_19 := zAll2_ok (P := fun t => ∃ c, zCd 19 [0] t c ∧ xm_19.get t = zEx c) ⟨⟨_, xc_19_0, xe_19_0⟩, trivial⟩
/-- SquareMesh$Mesh.strip -/
theorem xj_20 : ∀ pc, pI 20 pc = pJ_20 pc := fun _ => rfl
noncomputable def xb_20_0 : List zF := [zq_aldg zG0, zq_getfg 1 zG1, zq_ildg zG1, zq_k 40, zq_mul, zq_ildg zG2, zq_add, zq_k 4294967295, zq_iast, zq_aldg zG0, zq_getfg 1 zG1, zq_ildg zG2, zq_k 40, zq_mul, zq_ildg zG3, zq_add, zq_k 4294967295, zq_iast, zq_aldg zG0, zq_getfg 1 zG1, zq_ildg zG3, zq_k 40, zq_mul, zq_ildg zG1, zq_add, zq_k 4294967295, zq_iast, zq_vret]
noncomputable def xf_20_0 : zE → zKn := fun E => zq_aldg zG0 (zq_getfg 1 zG1 (zq_ildg zG1 (zq_k 40 (zq_mul (zq_ildg zG2 (zq_add (zq_k 4294967295 (zq_iast (zq_aldg zG0 (zq_getfg 1 zG1 (zq_ildg zG2 (zq_k 40 (zq_mul (zq_ildg zG3 (zq_add (zq_k 4294967295 (zq_iast (zq_aldg zG0 (zq_getfg 1 zG1 (zq_ildg zG3 (zq_k 40 (zq_mul (zq_ildg zG1 (zq_add (zq_k 4294967295 (zq_iast (zq_vret (zNil) E) E) E) E) E) E) E) E) E) E) E) E) E) E) E) E) E) E) E) E) E) E) E) E) E) E) E) E
theorem xe_20_0 : xf_20_0 = zEx xb_20_0 := by
  unfold xf_20_0 xb_20_0
  rfl
theorem xc_20_0 : zCd 20 [0] 0 xb_20_0 := zc_aload_n xj_20 1 0 rfl rfl zf_ald_0 (zc_getf xj_20 4 18 1 1 29 rfl rfl (zf_getf_1 _) (zc_iload_n xj_20 5 1 rfl rfl zf_ild_1 (zc_bipush xj_20 7 40 40 rfl rfl rfl (zc_imul xj_20 8 rfl rfl (zc_iload_n xj_20 9 2 rfl rfl zf_ild_2 (zc_iadd xj_20 10 rfl rfl (zc_iconst xj_20 11 (-1) 4294967295 rfl rfl rfl (zc_iastore xj_20 12 rfl rfl (zc_aload_n xj_20 13 0 rfl rfl zf_ald_0 (zc_getf xj_20 16 18 1 1 29 rfl rfl (zf_getf_1 _) (zc_iload_n xj_20 17 2 rfl rfl zf_ild_2 (zc_bipush xj_20 19 40 40 rfl rfl rfl (zc_imul xj_20 20 rfl rfl (zc_iload_n xj_20 21 3 rfl rfl zf_ild_3 (zc_iadd xj_20 22 rfl rfl (zc_iconst xj_20 23 (-1) 4294967295 rfl rfl rfl (zc_iastore xj_20 24 rfl rfl (zc_aload_n xj_20 25 0 rfl rfl zf_ald_0 (zc_getf xj_20 28 18 1 1 29 rfl rfl (zf_getf_1 _) (zc_iload_n xj_20 29 3 rfl rfl zf_ild_3 (zc_bipush xj_20 31 40 40 rfl rfl rfl (zc_imul xj_20 32 rfl rfl (zc_iload_n xj_20 33 1 rfl rfl zf_ild_1 (zc_iadd xj_20 34 rfl rfl (zc_iconst xj_20 35 (-1) 4294967295 rfl rfl rfl (zc_iastore xj_20 36 rfl rfl (zc_return_ xj_20 37 rfl rfl (trivial))))))))))))))))))))))))))))
noncomputable def xm_20 : Lean.RArray (zE → zKn) := .leaf xf_20_0
theorem xa_20 : zCdAll 20 [0] xm_20 := zAll2_ok (P := fun t => ∃ c, zCd 20 [0] t c ∧ xm_20.get t = zEx c) ⟨⟨_, xc_20_0, xe_20_0⟩, trivial⟩
/-- SquareMesh$Mesh.put -/
theorem xj_21 : ∀ pc, pI 21 pc = pJ_21 pc := fun _ => rfl
noncomputable def xb_21_0 : List zF := [zq_aldg zG0, zq_ildg zG1, zq_ildg zG2, zq_ildg zG3, zq_calli 19 3 1 4, zq_aldg zG0, zq_ildg zG1, zq_ildg zG2, zq_calli 22 2 1 5, zq_aldg zG0, zq_ildg zG2, zq_ildg zG3, zq_calli 22 2 1 5, zq_aldg zG0, zq_ildg zG3, zq_ildg zG1, zq_calli 22 2 1 5, zq_vret]
noncomputable def xf_21_0 : zE → zKn := fun E => zq_aldg zG0 (zq_ildg zG1 (zq_ildg zG2 (zq_ildg zG3 (zq_calli 19 3 1 4 (zq_aldg zG0 (zq_ildg zG1 (zq_ildg zG2 (zq_calli 22 2 1 5 (zq_aldg zG0 (zq_ildg zG2 (zq_ildg zG3 (zq_calli 22 2 1 5 (zq_aldg zG0 (zq_ildg zG3 (zq_ildg zG1 (zq_calli 22 2 1 5 (zq_vret (zNil) E) E) E) E) E) E) E) E) E) E) E) E) E) E) E) E) E) E
theorem xe_21_0 : xf_21_0 = zEx xb_21_0 := by
  unfold xf_21_0 xb_21_0
  rfl
theorem xc_21_0 : zCd 21 [0] 0 xb_21_0 := zc_aload_n xj_21 1 0 rfl rfl zf_ald_0 (zc_iload_n xj_21 2 1 rfl rfl zf_ild_1 (zc_iload_n xj_21 3 2 rfl rfl zf_ild_2 (zc_iload_n xj_21 4 3 rfl rfl zf_ild_3 (zc_invokevirtual1 xj_21 7 65 19 3 22 1 4 rfl rfl rfl rfl (zc_aload_n xj_21 8 0 rfl rfl zf_ald_0 (zc_iload_n xj_21 9 1 rfl rfl zf_ild_1 (zc_iload_n xj_21 10 2 rfl rfl zf_ild_2 (zc_invokevirtual1 xj_21 13 182 22 2 57 1 5 rfl rfl rfl rfl (zc_aload_n xj_21 14 0 rfl rfl zf_ald_0 (zc_iload_n xj_21 15 2 rfl rfl zf_ild_2 (zc_iload_n xj_21 16 3 rfl rfl zf_ild_3 (zc_invokevirtual1 xj_21 19 182 22 2 57 1 5 rfl rfl rfl rfl (zc_aload_n xj_21 20 0 rfl rfl zf_ald_0 (zc_iload_n xj_21 21 3 rfl rfl zf_ild_3 (zc_iload_n xj_21 22 1 rfl rfl zf_ild_1 (zc_invokevirtual1 xj_21 25 182 22 2 57 1 5 rfl rfl rfl rfl (zc_return_ xj_21 26 rfl rfl (trivial))))))))))))))))))
noncomputable def xm_21 : Lean.RArray (zE → zKn) := .leaf xf_21_0
theorem xa_21 : zCdAll 21 [0] xm_21 := zAll2_ok (P := fun t => ∃ c, zCd 21 [0] t c ∧ xm_21.get t = zEx c) ⟨⟨_, xc_21_0, xe_21_0⟩, trivial⟩
/-- SquareMesh$Mesh.await -/
theorem xj_22 : ∀ pc, pI 22 pc = pJ_22 pc := fun _ => rfl
noncomputable def xb_22_5 : List zF := [zq_vret]
noncomputable def xf_22_5 : zE → zKn := fun E => zq_vret (zNil) E
theorem xe_22_5 : xf_22_5 = zEx xb_22_5 := by
  unfold xf_22_5 xb_22_5
  rfl
theorem xc_22_5 : zCd 22 [0, 9, 10, 20, 21, 90] 90 xb_22_5 := zc_return_ xj_22 91 rfl rfl (trivial)
noncomputable def xb_22_4 : List zF := zq_istg zE4 :: zq_aldg zG0 :: zq_getfg 1 zG10 :: zq_ildg zG3 :: zq_ild_ 1 :: zq_ildg zG4 :: zq_lushr :: zq_kl 1 :: zq_land :: zq_kl 0 :: zq_lcmp :: zq_if_ne 90 :: zq_aldg zG0 :: zq_getfg 1 zG12 :: zq_aldg zG0 :: zq_getfg 1 zG11 :: zq_len :: zq_ic_ge 90 :: zq_aldg zG0 :: zq_getfg 1 zG10 :: zq_ildg zG3 :: zq_dup2 :: zq_ild_ 1 :: zq_kl 1 :: zq_ildg zG4 :: zq_lshl :: zq_lor :: zq_last :: zq_aldg zG0 :: zq_getfg 1 zG11 :: zq_aldg zG0 :: zq_getfg 1 zG12 :: zq_ildg zG3 :: zq_k 40 :: zq_mul :: zq_ildg zG4 :: zq_add :: zq_iast :: zq_aldg zG0 :: zq_dup :: zq_getfg 1 zG12 :: zq_k 1 :: zq_add :: zq_putf 1 12 0 :: xb_22_5
noncomputable def xf_22_4 : zE → zKn := fun E => zq_istg zE4 (zq_aldg zG0 (zq_getfg 1 zG10 (zq_ildg zG3 (zq_ild_ 1 (zq_ildg zG4 (zq_lushr (zq_kl 1 (zq_land (zq_kl 0 (zq_lcmp (zq_if_ne 90 (zq_aldg zG0 (zq_getfg 1 zG12 (zq_aldg zG0 (zq_getfg 1 zG11 (zq_len (zq_ic_ge 90 (zq_aldg zG0 (zq_getfg 1 zG10 (zq_ildg zG3 (zq_dup2 (zq_ild_ 1 (zq_kl 1 (zq_ildg zG4 (zq_lshl (zq_lor (zq_last (zq_aldg zG0 (zq_getfg 1 zG11 (zq_aldg zG0 (zq_getfg 1 zG12 (zq_ildg zG3 (zq_k 40 (zq_mul (zq_ildg zG4 (zq_add (zq_iast (zq_aldg zG0 (zq_dup (zq_getfg 1 zG12 (zq_k 1 (zq_add (zq_putf 1 12 0 (xf_22_5 E) E) E) E) E) E) E) E) E) E) E) E) E) E) E) E) E) E) E) E) E) E) E) E) E) E) E) E) E) E) E) E) E) E) E) E) E) E) E) E) E) E) E) E) E
set_option maxRecDepth 100000 in
theorem xe_22_4 : xf_22_4 = zEx xb_22_4 := by
  unfold xf_22_4 xb_22_4
  rw [xe_22_5]
  rfl
theorem xc_22_4 : zCd 22 [0, 9, 10, 20, 21, 90] 21 xb_22_4 := zc_istore xj_22 23 4 rfl rfl zf_ist_4 (zc_aload_n xj_22 24 0 rfl rfl zf_ald_0 (zc_getf xj_22 27 41 1 10 53 rfl rfl (zf_getf_10 _) (zc_iload_n xj_22 28 3 rfl rfl zf_ild_3 (zc_laload xj_22 29 rfl rfl (zc_iload xj_22 31 4 rfl rfl zf_ild_4 (zc_lushr xj_22 32 rfl rfl (zc_lconst xj_22 33 1 rfl rfl (zc_land xj_22 34 rfl rfl (zc_lconst xj_22 35 0 rfl rfl (zc_lcmp xj_22 36 rfl rfl (zc_if_ne xj_22 39 54 90 rfl rfl rfl (zc_aload_n xj_22 40 0 rfl rfl zf_ald_0 (zc_getf xj_22 43 185 1 12 55 rfl rfl (zf_getf_12 _) (zc_aload_n xj_22 44 0 rfl rfl zf_ald_0 (zc_getf xj_22 47 44 1 11 54 rfl rfl (zf_getf_11 _) (zc_arraylength xj_22 48 rfl rfl (zc_ic_ge xj_22 51 42 90 rfl rfl rfl (zc_aload_n xj_22 52 0 rfl rfl zf_ald_0 (zc_getf xj_22 55 41 1 10 53 rfl rfl (zf_getf_10 _) (zc_iload_n xj_22 56 3 rfl rfl zf_ild_3 (zc_dup2 xj_22 57 rfl rfl (zc_laload xj_22 58 rfl rfl (zc_lconst xj_22 59 1 rfl rfl (zc_iload xj_22 61 4 rfl rfl zf_ild_4 (zc_lshl xj_22 62 rfl rfl (zc_lor xj_22 63 rfl rfl (zc_lastore xj_22 64 rfl rfl (zc_aload_n xj_22 65 0 rfl rfl zf_ald_0 (zc_getf xj_22 68 44 1 11 54 rfl rfl (zf_getf_11 _) (zc_aload_n xj_22 69 0 rfl rfl zf_ald_0 (zc_getf xj_22 72 185 1 12 55 rfl rfl (zf_getf_12 _) (zc_iload_n xj_22 73 3 rfl rfl zf_ild_3 (zc_bipush xj_22 75 40 40 rfl rfl rfl (zc_imul xj_22 76 rfl rfl (zc_iload xj_22 78 4 rfl rfl zf_ild_4 (zc_iadd xj_22 79 rfl rfl (zc_iastore xj_22 80 rfl rfl (zc_aload_n xj_22 81 0 rfl rfl zf_ald_0 (zc_dup xj_22 82 rfl rfl (zc_getf xj_22 85 185 1 12 55 rfl rfl (zf_getf_12 _) (zc_iconst xj_22 86 1 1 rfl rfl rfl (zc_iadd xj_22 87 rfl rfl (zc_putf xj_22 90 185 1 12 55 0 rfl rfl rfl (xc_22_5))))))))))))))))))))))))))))))))))))))))))))
noncomputable def xb_22_3 : List zF := zq_ildg zG1 :: xb_22_4
noncomputable def xf_22_3 : zE → zKn := fun E => zq_ildg zG1 (xf_22_4 E) E
theorem xe_22_3 : xf_22_3 = zEx xb_22_3 := by
  unfold xf_22_3 xb_22_3
  rw [xe_22_4]
  rfl
theorem xc_22_3 : zCd 22 [0, 9, 10, 20, 21, 90] 20 xb_22_3 := zc_iload_n xj_22 21 1 rfl rfl zf_ild_1 (xc_22_4)
noncomputable def xb_22_2 : List zF := [zq_istg zE3, zq_ildg zG1, zq_ildg zG2, zq_ic_ge 20, zq_ildg zG2, zq_goto 21]
noncomputable def xf_22_2 : zE → zKn := fun E => zq_istg zE3 (zq_ildg zG1 (zq_ildg zG2 (zq_ic_ge 20 (zq_ildg zG2 (zq_goto 21 (zNil) E) E) E) E) E) E
theorem xe_22_2 : xf_22_2 = zEx xb_22_2 := by
  unfold xf_22_2 xb_22_2
  rfl
theorem xc_22_2 : zCd 22 [0, 9, 10, 20, 21, 90] 10 xb_22_2 := zc_istore_n xj_22 11 3 rfl rfl zf_ist_3 (zc_iload_n xj_22 12 1 rfl rfl zf_ild_1 (zc_iload_n xj_22 13 2 rfl rfl zf_ild_2 (zc_ic_ge xj_22 16 7 20 rfl rfl rfl (zc_iload_n xj_22 17 2 rfl rfl zf_ild_2 (zc_goto xj_22 18 4 21 rfl rfl rfl (trivial))))))
noncomputable def xb_22_1 : List zF := zq_ildg zG2 :: xb_22_2
noncomputable def xf_22_1 : zE → zKn := fun E => zq_ildg zG2 (xf_22_2 E) E
theorem xe_22_1 : xf_22_1 = zEx xb_22_1 := by
  unfold xf_22_1 xb_22_1
  rw [xe_22_2]
  rfl
theorem xc_22_1 : zCd 22 [0, 9, 10, 20, 21, 90] 9 xb_22_1 := zc_iload_n xj_22 10 2 rfl rfl zf_ild_2 (xc_22_2)
noncomputable def xb_22_0 : List zF := [zq_ildg zG1, zq_ildg zG2, zq_ic_ge 9, zq_ildg zG1, zq_goto 10]
noncomputable def xf_22_0 : zE → zKn := fun E => zq_ildg zG1 (zq_ildg zG2 (zq_ic_ge 9 (zq_ildg zG1 (zq_goto 10 (zNil) E) E) E) E) E
theorem xe_22_0 : xf_22_0 = zEx xb_22_0 := by
  unfold xf_22_0 xb_22_0
  rfl
theorem xc_22_0 : zCd 22 [0, 9, 10, 20, 21, 90] 0 xb_22_0 := zc_iload_n xj_22 1 1 rfl rfl zf_ild_1 (zc_iload_n xj_22 2 2 rfl rfl zf_ild_2 (zc_ic_ge xj_22 5 7 9 rfl rfl rfl (zc_iload_n xj_22 6 1 rfl rfl zf_ild_1 (zc_goto xj_22 7 4 10 rfl rfl rfl (trivial)))))
noncomputable def xm_22 : Lean.RArray (zE → zKn) := .branch 20 (.branch 9 (.leaf xf_22_0) (.branch 10 (.leaf xf_22_1) (.leaf xf_22_2))) (.branch 21 (.leaf xf_22_3) (.branch 90 (.leaf xf_22_4) (.leaf xf_22_5)))
theorem xa_22 : zCdAll 22 [0, 9, 10, 20, 21, 90] xm_22 := zAll2_ok (P := fun t => ∃ c, zCd 22 [0, 9, 10, 20, 21, 90] t c ∧ xm_22.get t = zEx c) ⟨⟨_, xc_22_0, xe_22_0⟩, ⟨_, xc_22_1, xe_22_1⟩, ⟨_, xc_22_2, xe_22_2⟩, ⟨_, xc_22_3, xe_22_3⟩, ⟨_, xc_22_4, xe_22_4⟩, ⟨_, xc_22_5, xe_22_5⟩, trivial⟩
/-- SquareMesh$Mesh.settle -/
theorem xj_23 : ∀ pc, pI 23 pc = pJ_23 pc := fun _ => rfl
noncomputable def xb_23_3 : List zF := [zq_aldg zG0, zq_calli 31 0 1 4, zq_vret]
noncomputable def xf_23_3 : zE → zKn := fun E => zq_aldg zG0 (zq_calli 31 0 1 4 (zq_vret (zNil) E) E) E
theorem xe_23_3 : xf_23_3 = zEx xb_23_3 := by
  unfold xf_23_3 xb_23_3
  rfl
theorem xc_23_3 : zCd 23 [0, 6, 107, 113] 113 xb_23_3 := zc_aload_n xj_23 114 0 rfl rfl zf_ald_0 (zc_invokevirtual1 xj_23 117 71 31 0 24 1 4 rfl rfl rfl rfl (zc_return_ xj_23 118 rfl rfl (trivial)))
noncomputable def xb_23_2 : List zF := [zq_incg zG1 zE1 1, zq_goto 6]
noncomputable def xf_23_2 : zE → zKn := fun E => zq_incg zG1 zE1 1 (zq_goto 6 (zNil) E) E
theorem xe_23_2 : xf_23_2 = zEx xb_23_2 := by
  unfold xf_23_2 xb_23_2
  rfl
theorem xc_23_2 : zCd 23 [0, 6, 107, 113] 107 xb_23_2 := zc_iinc xj_23 110 1 1 1 rfl rfl rfl (zf_inc_1 _) (zc_goto xj_23 111 (-104) 6 rfl rfl rfl (trivial))
noncomputable def xb_23_1 : List zF := zq_ildg zG1 :: zq_k 1000000 :: zq_ic_ge 113 :: zq_aldg zG0 :: zq_getfg 1 zG12 :: zq_if_le 113 :: zq_aldg zG0 :: zq_dup :: zq_getfg 1 zG12 :: zq_k 1 :: zq_sub :: zq_putf 1 12 0 :: zq_aldg zG0 :: zq_getfg 1 zG11 :: zq_aldg zG0 :: zq_getfg 1 zG12 :: zq_ild_ 0 :: zq_k 40 :: zq_div :: zq_istg zE2 :: zq_aldg zG0 :: zq_getfg 1 zG11 :: zq_aldg zG0 :: zq_getfg 1 zG12 :: zq_ild_ 0 :: zq_k 40 :: zq_rem :: zq_istg zE3 :: zq_aldg zG0 :: zq_getfg 1 zG10 :: zq_ildg zG2 :: zq_dup2 :: zq_ild_ 1 :: zq_kl 1 :: zq_ildg zG3 :: zq_lshl :: zq_kl 18446744073709551615 :: zq_lxor :: zq_land :: zq_last :: zq_aldg zG0 :: zq_ildg zG2 :: zq_ildg zG3 :: zq_calli 25 2 1 3 :: zq_if_eq 107 :: zq_aldg zG0 :: zq_getfg 1 zG0 :: zq_ildg zG2 :: zq_ildg zG3 :: zq_calli 91 2 5 3 :: zq_if_ne 107 :: zq_aldg zG0 :: zq_ildg zG2 :: zq_ildg zG3 :: zq_calli 26 2 1 8 :: zq_if_ne 107 :: zq_aldg zG0 :: zq_ildg zG2 :: zq_ildg zG3 :: zq_calli 24 2 1 5 :: xb_23_2
noncomputable def xf_23_1 : zE → zKn := fun E => zq_ildg zG1 (zq_k 1000000 (zq_ic_ge 113 (zq_aldg zG0 (zq_getfg 1 zG12 (zq_if_le 113 (zq_aldg zG0 (zq_dup (zq_getfg 1 zG12 (zq_k 1 (zq_sub (zq_putf 1 12 0 (zq_aldg zG0 (zq_getfg 1 zG11 (zq_aldg zG0 (zq_getfg 1 zG12 (zq_ild_ 0 (zq_k 40 (zq_div (zq_istg zE2 (zq_aldg zG0 (zq_getfg 1 zG11 (zq_aldg zG0 (zq_getfg 1 zG12 (zq_ild_ 0 (zq_k 40 (zq_rem (zq_istg zE3 (zq_aldg zG0 (zq_getfg 1 zG10 (zq_ildg zG2 (zq_dup2 (zq_ild_ 1 (zq_kl 1 (zq_ildg zG3 (zq_lshl (zq_kl 18446744073709551615 (zq_lxor (zq_land (zq_last (zq_aldg zG0 (zq_ildg zG2 (zq_ildg zG3 (zq_calli 25 2 1 3 (zq_if_eq 107 (zq_aldg zG0 (zq_getfg 1 zG0 (zq_ildg zG2 (zq_ildg zG3 (zq_calli 91 2 5 3 (zq_if_ne 107 (zq_aldg zG0 (zq_ildg zG2 (zq_ildg zG3 (zq_calli 26 2 1 8 (zq_if_ne 107 (zq_aldg zG0 (zq_ildg zG2 (zq_ildg zG3 (zq_calli 24 2 1 5 (xf_23_2 E) E) E) E) E) E) E) E) E) E) E) E) E) E) E) E) E) E) E) E) E) E) E) E) E) E) E) E) E) E) E) E) E) E) E) E) E) E) E) E) E) E) E) E) E) E) E) E) E) E) E) E) E) E) E) E) E) E) E) E) E
set_option maxRecDepth 100000 in
theorem xe_23_1 : xf_23_1 = zEx xb_23_1 := by
  unfold xf_23_1 xb_23_1
  rw [xe_23_2]
  rfl
theorem xc_23_1 : zCd 23 [0, 6, 107, 113] 6 xb_23_1 := zc_iload_n xj_23 7 1 rfl rfl zf_ild_1 (zc_ldc xj_23 9 148 1000000 0 rfl rfl rfl (zc_ic_ge xj_23 12 104 113 rfl rfl rfl (zc_aload_n xj_23 13 0 rfl rfl zf_ald_0 (zc_getf xj_23 16 185 1 12 55 rfl rfl (zf_getf_12 _) (zc_if_le xj_23 19 97 113 rfl rfl rfl (zc_aload_n xj_23 20 0 rfl rfl zf_ald_0 (zc_dup xj_23 21 rfl rfl (zc_getf xj_23 24 185 1 12 55 rfl rfl (zf_getf_12 _) (zc_iconst xj_23 25 1 1 rfl rfl rfl (zc_isub xj_23 26 rfl rfl (zc_putf xj_23 29 185 1 12 55 0 rfl rfl rfl (zc_aload_n xj_23 30 0 rfl rfl zf_ald_0 (zc_getf xj_23 33 44 1 11 54 rfl rfl (zf_getf_11 _) (zc_aload_n xj_23 34 0 rfl rfl zf_ald_0 (zc_getf xj_23 37 185 1 12 55 rfl rfl (zf_getf_12 _) (zc_iaload xj_23 38 rfl rfl (zc_bipush xj_23 40 40 40 rfl rfl rfl (zc_idiv xj_23 41 rfl rfl (zc_istore_n xj_23 42 2 rfl rfl zf_ist_2 (zc_aload_n xj_23 43 0 rfl rfl zf_ald_0 (zc_getf xj_23 46 44 1 11 54 rfl rfl (zf_getf_11 _) (zc_aload_n xj_23 47 0 rfl rfl zf_ald_0 (zc_getf xj_23 50 185 1 12 55 rfl rfl (zf_getf_12 _) (zc_iaload xj_23 51 rfl rfl (zc_bipush xj_23 53 40 40 rfl rfl rfl (zc_irem xj_23 54 rfl rfl (zc_istore_n xj_23 55 3 rfl rfl zf_ist_3 (zc_aload_n xj_23 56 0 rfl rfl zf_ald_0 (zc_getf xj_23 59 41 1 10 53 rfl rfl (zf_getf_10 _) (zc_iload_n xj_23 60 2 rfl rfl zf_ild_2 (zc_dup2 xj_23 61 rfl rfl (zc_laload xj_23 62 rfl rfl (zc_lconst xj_23 63 1 rfl rfl (zc_iload_n xj_23 64 3 rfl rfl zf_ild_3 (zc_lshl xj_23 65 rfl rfl (zc_ldc2_w xj_23 68 188 18446744073709551615 1 rfl rfl rfl (zc_lxor xj_23 69 rfl rfl (zc_land xj_23 70 rfl rfl (zc_lastore xj_23 71 rfl rfl (zc_aload_n xj_23 72 0 rfl rfl zf_ald_0 (zc_iload_n xj_23 73 2 rfl rfl zf_ild_2 (zc_iload_n xj_23 74 3 rfl rfl zf_ild_3 (zc_invokevirtual1 xj_23 77 179 25 2 61 1 3 rfl rfl rfl rfl (zc_if_eq xj_23 80 30 107 rfl rfl rfl (zc_aload_n xj_23 81 0 rfl rfl zf_ald_0 (zc_getf xj_23 84 12 1 0 24 rfl rfl (zf_getf_0 _) (zc_iload_n xj_23 85 2 rfl rfl zf_ild_2 (zc_iload_n xj_23 86 3 rfl rfl zf_ild_3 (zc_invokevirtual1 xj_23 89 122 91 2 58 5 3 rfl rfl rfl rfl (zc_if_ne xj_23 92 18 107 rfl rfl rfl (zc_aload_n xj_23 93 0 rfl rfl zf_ald_0 (zc_iload_n xj_23 94 2 rfl rfl zf_ild_2 (zc_iload_n xj_23 95 3 rfl rfl zf_ild_3 (zc_invokevirtual1 xj_23 98 190 26 2 62 1 8 rfl rfl rfl rfl (zc_if_ne xj_23 101 9 107 rfl rfl rfl (zc_aload_n xj_23 102 0 rfl rfl zf_ald_0 (zc_iload_n xj_23 103 2 rfl rfl zf_ild_2 (zc_iload_n xj_23 104 3 rfl rfl zf_ild_3 (zc_invokevirtual1 xj_23 107 172 24 2 65 1 5 rfl rfl rfl rfl (xc_23_2))))))))))))))))))))))))))))))))))))))))))))))))))))))))))))
noncomputable def xb_23_0 : List zF := zq_aldg zG0 :: zq_calli 27 0 1 2 :: zq_k 0 :: zq_istg zE1 :: xb_23_1
noncomputable def xf_23_0 : zE → zKn := fun E => zq_aldg zG0 (zq_calli 27 0 1 2 (zq_k 0 (zq_istg zE1 (xf_23_1 E) E) E) E) E
theorem xe_23_0 : xf_23_0 = zEx xb_23_0 := by
  unfold xf_23_0 xb_23_0
  rw [xe_23_1]
  rfl
theorem xc_23_0 : zCd 23 [0, 6, 107, 113] 0 xb_23_0 := zc_aload_n xj_23 1 0 rfl rfl zf_ald_0 (zc_invokevirtual1 xj_23 4 68 27 0 23 1 2 rfl rfl rfl rfl (zc_iconst xj_23 5 0 0 rfl rfl rfl (zc_istore_n xj_23 6 1 rfl rfl zf_ist_1 (xc_23_1))))
noncomputable def xm_23 : Lean.RArray (zE → zKn) := .branch 107 (.branch 6 (.leaf xf_23_0) (.leaf xf_23_1)) (.branch 113 (.leaf xf_23_2) (.leaf xf_23_3))
theorem xa_23 : zCdAll 23 [0, 6, 107, 113] xm_23 := zAll2_ok (P := fun t => ∃ c, zCd 23 [0, 6, 107, 113] t c ∧ xm_23.get t = zEx c) ⟨⟨_, xc_23_0, xe_23_0⟩, ⟨_, xc_23_1, xe_23_1⟩, ⟨_, xc_23_2, xe_23_2⟩, ⟨_, xc_23_3, xe_23_3⟩, trivial⟩
/-- SquareMesh$Mesh.flip -/
theorem xj_24 : ∀ pc, pI 24 pc = pJ_24 pc := fun _ => rfl
noncomputable def xb_24_2 : List zF := [zq_aldg zG0, zq_getfg 1 zG1, zq_ildg zG1, zq_k 40, zq_mul, zq_ildg zG2, zq_add, zq_k 4294967295, zq_iast, zq_aldg zG0, zq_getfg 1 zG1, zq_ildg zG2, zq_k 40, zq_mul, zq_ildg zG1, zq_add, zq_k 4294967295, zq_iast, zq_aldg zG0, zq_ildg zG1, zq_ildg zG4, zq_ildg zG3, zq_calli 21 3 1 4, zq_aldg zG0, zq_ildg zG4, zq_ildg zG2, zq_ildg zG3, zq_calli 21 3 1 4, zq_vret]
noncomputable def xf_24_2 : zE → zKn := fun E => zq_aldg zG0 (zq_getfg 1 zG1 (zq_ildg zG1 (zq_k 40 (zq_mul (zq_ildg zG2 (zq_add (zq_k 4294967295 (zq_iast (zq_aldg zG0 (zq_getfg 1 zG1 (zq_ildg zG2 (zq_k 40 (zq_mul (zq_ildg zG1 (zq_add (zq_k 4294967295 (zq_iast (zq_aldg zG0 (zq_ildg zG1 (zq_ildg zG4 (zq_ildg zG3 (zq_calli 21 3 1 4 (zq_aldg zG0 (zq_ildg zG4 (zq_ildg zG2 (zq_ildg zG3 (zq_calli 21 3 1 4 (zq_vret (zNil) E) E) E) E) E) E) E) E) E) E) E) E) E) E) E) E) E) E) E) E) E) E) E) E) E) E) E) E) E
theorem xe_24_2 : xf_24_2 = zEx xb_24_2 := by
  unfold xf_24_2 xb_24_2
  rfl
theorem xc_24_2 : zCd 24 [0, 36, 37] 37 xb_24_2 := zc_aload_n xj_24 38 0 rfl rfl zf_ald_0 (zc_getf xj_24 41 18 1 1 29 rfl rfl (zf_getf_1 _) (zc_iload_n xj_24 42 1 rfl rfl zf_ild_1 (zc_bipush xj_24 44 40 40 rfl rfl rfl (zc_imul xj_24 45 rfl rfl (zc_iload_n xj_24 46 2 rfl rfl zf_ild_2 (zc_iadd xj_24 47 rfl rfl (zc_iconst xj_24 48 (-1) 4294967295 rfl rfl rfl (zc_iastore xj_24 49 rfl rfl (zc_aload_n xj_24 50 0 rfl rfl zf_ald_0 (zc_getf xj_24 53 18 1 1 29 rfl rfl (zf_getf_1 _) (zc_iload_n xj_24 54 2 rfl rfl zf_ild_2 (zc_bipush xj_24 56 40 40 rfl rfl rfl (zc_imul xj_24 57 rfl rfl (zc_iload_n xj_24 58 1 rfl rfl zf_ild_1 (zc_iadd xj_24 59 rfl rfl (zc_iconst xj_24 60 (-1) 4294967295 rfl rfl rfl (zc_iastore xj_24 61 rfl rfl (zc_aload_n xj_24 62 0 rfl rfl zf_ald_0 (zc_iload_n xj_24 63 1 rfl rfl zf_ild_1 (zc_iload xj_24 65 4 rfl rfl zf_ild_4 (zc_iload_n xj_24 66 3 rfl rfl zf_ild_3 (zc_invokevirtual1 xj_24 69 119 21 3 56 1 4 rfl rfl rfl rfl (zc_aload_n xj_24 70 0 rfl rfl zf_ald_0 (zc_iload xj_24 72 4 rfl rfl zf_ild_4 (zc_iload_n xj_24 73 2 rfl rfl zf_ild_2 (zc_iload_n xj_24 74 3 rfl rfl zf_ild_3 (zc_invokevirtual1 xj_24 77 119 21 3 56 1 4 rfl rfl rfl rfl (zc_return_ xj_24 78 rfl rfl (trivial)))))))))))))))))))))))))))))
noncomputable def xb_24_1 : List zF := [zq_vret]
noncomputable def xf_24_1 : zE → zKn := fun E => zq_vret (zNil) E
theorem xe_24_1 : xf_24_1 = zEx xb_24_1 := by
  unfold xf_24_1 xb_24_1
  rfl
theorem xc_24_1 : zCd 24 [0, 36, 37] 36 xb_24_1 := zc_return_ xj_24 37 rfl rfl (trivial)
noncomputable def xb_24_0 : List zF := zq_aldg zG0 :: zq_getfg 1 zG1 :: zq_ildg zG1 :: zq_k 40 :: zq_mul :: zq_ildg zG2 :: zq_add :: zq_ild_ 0 :: zq_istg zE3 :: zq_aldg zG0 :: zq_getfg 1 zG1 :: zq_ildg zG2 :: zq_k 40 :: zq_mul :: zq_ildg zG1 :: zq_add :: zq_ild_ 0 :: zq_istg zE4 :: zq_ildg zG3 :: zq_k 4294967295 :: zq_ic_eq 36 :: zq_ildg zG4 :: zq_k 4294967295 :: zq_ic_ne 37 :: xb_24_1
noncomputable def xf_24_0 : zE → zKn := fun E => zq_aldg zG0 (zq_getfg 1 zG1 (zq_ildg zG1 (zq_k 40 (zq_mul (zq_ildg zG2 (zq_add (zq_ild_ 0 (zq_istg zE3 (zq_aldg zG0 (zq_getfg 1 zG1 (zq_ildg zG2 (zq_k 40 (zq_mul (zq_ildg zG1 (zq_add (zq_ild_ 0 (zq_istg zE4 (zq_ildg zG3 (zq_k 4294967295 (zq_ic_eq 36 (zq_ildg zG4 (zq_k 4294967295 (zq_ic_ne 37 (xf_24_1 E) E) E) E) E) E) E) E) E) E) E) E) E) E) E) E) E) E) E) E) E) E) E) E) E
theorem xe_24_0 : xf_24_0 = zEx xb_24_0 := by
  unfold xf_24_0 xb_24_0
  rw [xe_24_1]
  rfl
theorem xc_24_0 : zCd 24 [0, 36, 37] 0 xb_24_0 := zc_aload_n xj_24 1 0 rfl rfl zf_ald_0 (zc_getf xj_24 4 18 1 1 29 rfl rfl (zf_getf_1 _) (zc_iload_n xj_24 5 1 rfl rfl zf_ild_1 (zc_bipush xj_24 7 40 40 rfl rfl rfl (zc_imul xj_24 8 rfl rfl (zc_iload_n xj_24 9 2 rfl rfl zf_ild_2 (zc_iadd xj_24 10 rfl rfl (zc_iaload xj_24 11 rfl rfl (zc_istore_n xj_24 12 3 rfl rfl zf_ist_3 (zc_aload_n xj_24 13 0 rfl rfl zf_ald_0 (zc_getf xj_24 16 18 1 1 29 rfl rfl (zf_getf_1 _) (zc_iload_n xj_24 17 2 rfl rfl zf_ild_2 (zc_bipush xj_24 19 40 40 rfl rfl rfl (zc_imul xj_24 20 rfl rfl (zc_iload_n xj_24 21 1 rfl rfl zf_ild_1 (zc_iadd xj_24 22 rfl rfl (zc_iaload xj_24 23 rfl rfl (zc_istore xj_24 25 4 rfl rfl zf_ist_4 (zc_iload_n xj_24 26 3 rfl rfl zf_ild_3 (zc_iconst xj_24 27 (-1) 4294967295 rfl rfl rfl (zc_ic_eq xj_24 30 9 36 rfl rfl rfl (zc_iload xj_24 32 4 rfl rfl zf_ild_4 (zc_iconst xj_24 33 (-1) 4294967295 rfl rfl rfl (zc_ic_ne xj_24 36 4 37 rfl rfl rfl (xc_24_1))))))))))))))))))))))))
noncomputable def xm_24 : Lean.RArray (zE → zKn) := .branch 36 (.leaf xf_24_0) (.branch 37 (.leaf xf_24_1) (.leaf xf_24_2))
theorem xa_24 : zCdAll 24 [0, 36, 37] xm_24 := zAll2_ok (P := fun t => ∃ c, zCd 24 [0, 36, 37] t c ∧ xm_24.get t = zEx c) ⟨⟨_, xc_24_0, xe_24_0⟩, ⟨_, xc_24_1, xe_24_1⟩, ⟨_, xc_24_2, xe_24_2⟩, trivial⟩
/-- SquareMesh$Mesh.isInner -/
theorem xj_25 : ∀ pc, pI 25 pc = pJ_25 pc := fun _ => rfl
noncomputable def xb_25_2 : List zF := [zq_iret 1]
noncomputable def xf_25_2 : zE → zKn := fun E => zq_iret 1 (zNil) E
theorem xe_25_2 : xf_25_2 = zEx xb_25_2 := by
  unfold xf_25_2 xb_25_2
  rfl
theorem xc_25_2 : zCd 25 [0, 34, 35] 35 xb_25_2 := zc_ireturn1 xj_25 36 rfl rfl (trivial)
noncomputable def xb_25_1 : List zF := zq_k 0 :: xb_25_2
noncomputable def xf_25_1 : zE → zKn := fun E => zq_k 0 (xf_25_2 E) E
theorem xe_25_1 : xf_25_1 = zEx xb_25_1 := by
  unfold xf_25_1 xb_25_1
  rw [xe_25_2]
  rfl
theorem xc_25_1 : zCd 25 [0, 34, 35] 34 xb_25_1 := zc_iconst xj_25 35 0 0 rfl rfl rfl (xc_25_2)
noncomputable def xb_25_0 : List zF := [zq_aldg zG0, zq_getfg 1 zG1, zq_ildg zG1, zq_k 40, zq_mul, zq_ildg zG2, zq_add, zq_ild_ 0, zq_k 4294967295, zq_ic_eq 34, zq_aldg zG0, zq_getfg 1 zG1, zq_ildg zG2, zq_k 40, zq_mul, zq_ildg zG1, zq_add, zq_ild_ 0, zq_k 4294967295, zq_ic_eq 34, zq_k 1, zq_goto 35]
noncomputable def xf_25_0 : zE → zKn := fun E => zq_aldg zG0 (zq_getfg 1 zG1 (zq_ildg zG1 (zq_k 40 (zq_mul (zq_ildg zG2 (zq_add (zq_ild_ 0 (zq_k 4294967295 (zq_ic_eq 34 (zq_aldg zG0 (zq_getfg 1 zG1 (zq_ildg zG2 (zq_k 40 (zq_mul (zq_ildg zG1 (zq_add (zq_ild_ 0 (zq_k 4294967295 (zq_ic_eq 34 (zq_k 1 (zq_goto 35 (zNil) E) E) E) E) E) E) E) E) E) E) E) E) E) E) E) E) E) E) E) E) E) E
theorem xe_25_0 : xf_25_0 = zEx xb_25_0 := by
  unfold xf_25_0 xb_25_0
  rfl
theorem xc_25_0 : zCd 25 [0, 34, 35] 0 xb_25_0 := zc_aload_n xj_25 1 0 rfl rfl zf_ald_0 (zc_getf xj_25 4 18 1 1 29 rfl rfl (zf_getf_1 _) (zc_iload_n xj_25 5 1 rfl rfl zf_ild_1 (zc_bipush xj_25 7 40 40 rfl rfl rfl (zc_imul xj_25 8 rfl rfl (zc_iload_n xj_25 9 2 rfl rfl zf_ild_2 (zc_iadd xj_25 10 rfl rfl (zc_iaload xj_25 11 rfl rfl (zc_iconst xj_25 12 (-1) 4294967295 rfl rfl rfl (zc_ic_eq xj_25 15 22 34 rfl rfl rfl (zc_aload_n xj_25 16 0 rfl rfl zf_ald_0 (zc_getf xj_25 19 18 1 1 29 rfl rfl (zf_getf_1 _) (zc_iload_n xj_25 20 2 rfl rfl zf_ild_2 (zc_bipush xj_25 22 40 40 rfl rfl rfl (zc_imul xj_25 23 rfl rfl (zc_iload_n xj_25 24 1 rfl rfl zf_ild_1 (zc_iadd xj_25 25 rfl rfl (zc_iaload xj_25 26 rfl rfl (zc_iconst xj_25 27 (-1) 4294967295 rfl rfl rfl (zc_ic_eq xj_25 30 7 34 rfl rfl rfl (zc_iconst xj_25 31 1 1 rfl rfl rfl (zc_goto xj_25 32 4 35 rfl rfl rfl (trivial))))))))))))))))))))))
noncomputable def xm_25 : Lean.RArray (zE → zKn) := .branch 34 (.leaf xf_25_0) (.branch 35 (.leaf xf_25_1) (.leaf xf_25_2))
theorem xa_25 : zCdAll 25 [0, 34, 35] xm_25 := zAll2_ok (P := fun t => ∃ c, zCd 25 [0, 34, 35] t c ∧ xm_25.get t = zEx c) ⟨⟨_, xc_25_0, xe_25_0⟩, ⟨_, xc_25_1, xe_25_1⟩, ⟨_, xc_25_2, xe_25_2⟩, trivial⟩
/-- SquareMesh$Mesh.isAllowed -/
theorem xj_26 : ∀ pc, pI 26 pc = pJ_26 pc := fun _ => rfl
noncomputable def xb_26_8 : List zF := [zq_iret 1]
noncomputable def xf_26_8 : zE → zKn := fun E => zq_iret 1 (zNil) E
theorem xe_26_8 : xf_26_8 = zEx xb_26_8 := by
  unfold xf_26_8 xb_26_8
  rfl
theorem xc_26_8 : zCd 26 [0, 36, 38, 92, 93, 94, 134, 138, 139] 139 xb_26_8 := zc_ireturn1 xj_26 140 rfl rfl (trivial)
noncomputable def xb_26_7 : List zF := zq_k 0 :: xb_26_8
noncomputable def xf_26_7 : zE → zKn := fun E => zq_k 0 (xf_26_8 E) E
theorem xe_26_7 : xf_26_7 = zEx xb_26_7 := by
  unfold xf_26_7 xb_26_7
  rw [xe_26_8]
  rfl
theorem xc_26_7 : zCd 26 [0, 36, 38, 92, 93, 94, 134, 138, 139] 138 xb_26_7 := zc_iconst xj_26 139 0 0 rfl rfl rfl (xc_26_8)
noncomputable def xb_26_6 : List zF := [zq_k 1, zq_goto 139]
noncomputable def xf_26_6 : zE → zKn := fun E => zq_k 1 (zq_goto 139 (zNil) E) E
theorem xe_26_6 : xf_26_6 = zEx xb_26_6 := by
  unfold xf_26_6 xb_26_6
  rfl
theorem xc_26_6 : zCd 26 [0, 36, 38, 92, 93, 94, 134, 138, 139] 134 xb_26_6 := zc_iconst xj_26 135 1 1 rfl rfl rfl (zc_goto xj_26 136 4 139 rfl rfl rfl (trivial))
noncomputable def xb_26_5 : List zF := zq_aldg zG0 :: zq_getfg 1 zG0 :: zq_aldg zG0 :: zq_getfg 1 zG0 :: zq_ildg zG1 :: zq_ildg zG2 :: zq_calli 98 2 5 3 :: zq_aldg zG0 :: zq_getfg 1 zG0 :: zq_ildg zG3 :: zq_ildg zG4 :: zq_calli 98 2 5 3 :: zq_calli 98 2 5 3 :: zq_istg zE7 :: zq_ildg zG7 :: zq_ildg zG1 :: zq_ic_eq 134 :: zq_ildg zG7 :: zq_ildg zG2 :: zq_ic_ne 138 :: xb_26_6
noncomputable def xf_26_5 : zE → zKn := fun E => zq_aldg zG0 (zq_getfg 1 zG0 (zq_aldg zG0 (zq_getfg 1 zG0 (zq_ildg zG1 (zq_ildg zG2 (zq_calli 98 2 5 3 (zq_aldg zG0 (zq_getfg 1 zG0 (zq_ildg zG3 (zq_ildg zG4 (zq_calli 98 2 5 3 (zq_calli 98 2 5 3 (zq_istg zE7 (zq_ildg zG7 (zq_ildg zG1 (zq_ic_eq 134 (zq_ildg zG7 (zq_ildg zG2 (zq_ic_ne 138 (xf_26_6 E) E) E) E) E) E) E) E) E) E) E) E) E) E) E) E) E) E) E) E) E
theorem xe_26_5 : xf_26_5 = zEx xb_26_5 := by
  unfold xf_26_5 xb_26_5
  rw [xe_26_6]
  rfl
theorem xc_26_5 : zCd 26 [0, 36, 38, 92, 93, 94, 134, 138, 139] 94 xb_26_5 := zc_aload_n xj_26 95 0 rfl rfl zf_ald_0 (zc_getf xj_26 98 12 1 0 24 rfl rfl (zf_getf_0 _) (zc_aload_n xj_26 99 0 rfl rfl zf_ald_0 (zc_getf xj_26 102 12 1 0 24 rfl rfl (zf_getf_0 _) (zc_iload_n xj_26 103 1 rfl rfl zf_ild_1 (zc_iload_n xj_26 104 2 rfl rfl zf_ild_2 (zc_invokevirtual1 xj_26 107 193 98 2 64 5 3 rfl rfl rfl rfl (zc_aload_n xj_26 108 0 rfl rfl zf_ald_0 (zc_getf xj_26 111 12 1 0 24 rfl rfl (zf_getf_0 _) (zc_iload_n xj_26 112 3 rfl rfl zf_ild_3 (zc_iload xj_26 114 4 rfl rfl zf_ild_4 (zc_invokevirtual1 xj_26 117 193 98 2 64 5 3 rfl rfl rfl rfl (zc_invokevirtual1 xj_26 120 193 98 2 64 5 3 rfl rfl rfl rfl (zc_istore xj_26 122 7 rfl rfl zf_ist_7 (zc_iload xj_26 124 7 rfl rfl zf_ild_7 (zc_iload_n xj_26 125 1 rfl rfl zf_ild_1 (zc_ic_eq xj_26 128 9 134 rfl rfl rfl (zc_iload xj_26 130 7 rfl rfl zf_ild_7 (zc_iload_n xj_26 131 2 rfl rfl zf_ild_2 (zc_ic_ne xj_26 134 7 138 rfl rfl rfl (xc_26_6))))))))))))))))))))
noncomputable def xb_26_4 : List zF := [zq_iret 1]
noncomputable def xf_26_4 : zE → zKn := fun E => zq_iret 1 (zNil) E
theorem xe_26_4 : xf_26_4 = zEx xb_26_4 := by
  unfold xf_26_4 xb_26_4
  rfl
theorem xc_26_4 : zCd 26 [0, 36, 38, 92, 93, 94, 134, 138, 139] 93 xb_26_4 := zc_ireturn1 xj_26 94 rfl rfl (trivial)
noncomputable def xb_26_3 : List zF := zq_k 0 :: xb_26_4
noncomputable def xf_26_3 : zE → zKn := fun E => zq_k 0 (xf_26_4 E) E
theorem xe_26_3 : xf_26_3 = zEx xb_26_3 := by
  unfold xf_26_3 xb_26_3
  rw [xe_26_4]
  rfl
theorem xc_26_3 : zCd 26 [0, 36, 38, 92, 93, 94, 134, 138, 139] 92 xb_26_3 := zc_iconst xj_26 93 0 0 rfl rfl rfl (xc_26_4)
noncomputable def xb_26_2 : List zF := [zq_aldg zG0, zq_ildg zG1, zq_ildg zG2, zq_ildg zG3, zq_aldg zG0, zq_getfg 1 zG0, zq_getfg 5 zG0, zq_ildg zG4, zq_ild_ 0, zq_aldg zG0, zq_getfg 1 zG0, zq_getfg 5 zG1, zq_ildg zG4, zq_ild_ 0, zq_aldg zG0, zq_getfg 1 zG9, zq_ildg zG4, zq_ild_ 1, zq_calli 29 6 1 20, zq_lst 5, zq_lldg zG5, zq_kl 0, zq_lcmp, zq_if_eq 94, zq_lldg zG5, zq_kl 0, zq_lcmp, zq_if_ge 92, zq_k 1, zq_goto 93]
noncomputable def xf_26_2 : zE → zKn := fun E => zq_aldg zG0 (zq_ildg zG1 (zq_ildg zG2 (zq_ildg zG3 (zq_aldg zG0 (zq_getfg 1 zG0 (zq_getfg 5 zG0 (zq_ildg zG4 (zq_ild_ 0 (zq_aldg zG0 (zq_getfg 1 zG0 (zq_getfg 5 zG1 (zq_ildg zG4 (zq_ild_ 0 (zq_aldg zG0 (zq_getfg 1 zG9 (zq_ildg zG4 (zq_ild_ 1 (zq_calli 29 6 1 20 (zq_lst 5 (zq_lldg zG5 (zq_kl 0 (zq_lcmp (zq_if_eq 94 (zq_lldg zG5 (zq_kl 0 (zq_lcmp (zq_if_ge 92 (zq_k 1 (zq_goto 93 (zNil) E) E) E) E) E) E) E) E) E) E) E) E) E) E) E) E) E) E) E) E) E) E) E) E) E) E) E) E) E) E
theorem xe_26_2 : xf_26_2 = zEx xb_26_2 := by
  unfold xf_26_2 xb_26_2
  rfl
theorem xc_26_2 : zCd 26 [0, 36, 38, 92, 93, 94, 134, 138, 139] 38 xb_26_2 := zc_aload_n xj_26 39 0 rfl rfl zf_ald_0 (zc_iload_n xj_26 40 1 rfl rfl zf_ild_1 (zc_iload_n xj_26 41 2 rfl rfl zf_ild_2 (zc_iload_n xj_26 42 3 rfl rfl zf_ild_3 (zc_aload_n xj_26 43 0 rfl rfl zf_ald_0 (zc_getf xj_26 46 12 1 0 24 rfl rfl (zf_getf_0 _) (zc_getf xj_26 49 162 5 0 2 rfl rfl (zf_getf_0 _) (zc_iload xj_26 51 4 rfl rfl zf_ild_4 (zc_iaload xj_26 52 rfl rfl (zc_aload_n xj_26 53 0 rfl rfl zf_ald_0 (zc_getf xj_26 56 12 1 0 24 rfl rfl (zf_getf_0 _) (zc_getf xj_26 59 165 5 1 5 rfl rfl (zf_getf_1 _) (zc_iload xj_26 61 4 rfl rfl zf_ild_4 (zc_iaload xj_26 62 rfl rfl (zc_aload_n xj_26 63 0 rfl rfl zf_ald_0 (zc_getf xj_26 66 38 1 9 52 rfl rfl (zf_getf_9 _) (zc_iload xj_26 68 4 rfl rfl zf_ild_4 (zc_laload xj_26 69 rfl rfl (zc_invokevirtual1 xj_26 72 168 29 6 63 1 20 rfl rfl rfl rfl (zc_lstore xj_26 74 5 rfl rfl rfl (zc_lload xj_26 76 5 rfl rfl zf_lld_5 (zc_lconst xj_26 77 0 rfl rfl (zc_lcmp xj_26 78 rfl rfl (zc_if_eq xj_26 81 16 94 rfl rfl rfl (zc_lload xj_26 83 5 rfl rfl zf_lld_5 (zc_lconst xj_26 84 0 rfl rfl (zc_lcmp xj_26 85 rfl rfl (zc_if_ge xj_26 88 7 92 rfl rfl rfl (zc_iconst xj_26 89 1 1 rfl rfl rfl (zc_goto xj_26 90 4 93 rfl rfl rfl (trivial))))))))))))))))))))))))))))))
noncomputable def xb_26_1 : List zF := [zq_k 1, zq_iret 1]
noncomputable def xf_26_1 : zE → zKn := fun E => zq_k 1 (zq_iret 1 (zNil) E) E
theorem xe_26_1 : xf_26_1 = zEx xb_26_1 := by
  unfold xf_26_1 xb_26_1
  rfl
theorem xc_26_1 : zCd 26 [0, 36, 38, 92, 93, 94, 134, 138, 139] 36 xb_26_1 := zc_iconst xj_26 37 1 1 rfl rfl rfl (zc_ireturn1 xj_26 38 rfl rfl (trivial))
noncomputable def xb_26_0 : List zF := zq_aldg zG0 :: zq_getfg 1 zG1 :: zq_ildg zG1 :: zq_k 40 :: zq_mul :: zq_ildg zG2 :: zq_add :: zq_ild_ 0 :: zq_istg zE3 :: zq_aldg zG0 :: zq_getfg 1 zG1 :: zq_ildg zG2 :: zq_k 40 :: zq_mul :: zq_ildg zG1 :: zq_add :: zq_ild_ 0 :: zq_istg zE4 :: zq_ildg zG3 :: zq_k 4294967295 :: zq_ic_eq 36 :: zq_ildg zG4 :: zq_k 4294967295 :: zq_ic_ne 38 :: xb_26_1
noncomputable def xf_26_0 : zE → zKn := fun E => zq_aldg zG0 (zq_getfg 1 zG1 (zq_ildg zG1 (zq_k 40 (zq_mul (zq_ildg zG2 (zq_add (zq_ild_ 0 (zq_istg zE3 (zq_aldg zG0 (zq_getfg 1 zG1 (zq_ildg zG2 (zq_k 40 (zq_mul (zq_ildg zG1 (zq_add (zq_ild_ 0 (zq_istg zE4 (zq_ildg zG3 (zq_k 4294967295 (zq_ic_eq 36 (zq_ildg zG4 (zq_k 4294967295 (zq_ic_ne 38 (xf_26_1 E) E) E) E) E) E) E) E) E) E) E) E) E) E) E) E) E) E) E) E) E) E) E) E) E
theorem xe_26_0 : xf_26_0 = zEx xb_26_0 := by
  unfold xf_26_0 xb_26_0
  rw [xe_26_1]
  rfl
theorem xc_26_0 : zCd 26 [0, 36, 38, 92, 93, 94, 134, 138, 139] 0 xb_26_0 := zc_aload_n xj_26 1 0 rfl rfl zf_ald_0 (zc_getf xj_26 4 18 1 1 29 rfl rfl (zf_getf_1 _) (zc_iload_n xj_26 5 1 rfl rfl zf_ild_1 (zc_bipush xj_26 7 40 40 rfl rfl rfl (zc_imul xj_26 8 rfl rfl (zc_iload_n xj_26 9 2 rfl rfl zf_ild_2 (zc_iadd xj_26 10 rfl rfl (zc_iaload xj_26 11 rfl rfl (zc_istore_n xj_26 12 3 rfl rfl zf_ist_3 (zc_aload_n xj_26 13 0 rfl rfl zf_ald_0 (zc_getf xj_26 16 18 1 1 29 rfl rfl (zf_getf_1 _) (zc_iload_n xj_26 17 2 rfl rfl zf_ild_2 (zc_bipush xj_26 19 40 40 rfl rfl rfl (zc_imul xj_26 20 rfl rfl (zc_iload_n xj_26 21 1 rfl rfl zf_ild_1 (zc_iadd xj_26 22 rfl rfl (zc_iaload xj_26 23 rfl rfl (zc_istore xj_26 25 4 rfl rfl zf_ist_4 (zc_iload_n xj_26 26 3 rfl rfl zf_ild_3 (zc_iconst xj_26 27 (-1) 4294967295 rfl rfl rfl (zc_ic_eq xj_26 30 9 36 rfl rfl rfl (zc_iload xj_26 32 4 rfl rfl zf_ild_4 (zc_iconst xj_26 33 (-1) 4294967295 rfl rfl rfl (zc_ic_ne xj_26 36 5 38 rfl rfl rfl (xc_26_1))))))))))))))))))))))))
noncomputable def xm_26 : Lean.RArray (zE → zKn) := .branch 93 (.branch 38 (.branch 36 (.leaf xf_26_0) (.leaf xf_26_1)) (.branch 92 (.leaf xf_26_2) (.leaf xf_26_3))) (.branch 134 (.branch 94 (.leaf xf_26_4) (.leaf xf_26_5)) (.branch 138 (.leaf xf_26_6) (.branch 139 (.leaf xf_26_7) (.leaf xf_26_8))))
theorem xa_26 : zCdAll 26 [0, 36, 38, 92, 93, 94, 134, 138, 139] xm_26 := zAll2_ok (P := fun t => ∃ c, zCd 26 [0, 36, 38, 92, 93, 94, 134, 138, 139] t c ∧ xm_26.get t = zEx c) ⟨⟨_, xc_26_0, xe_26_0⟩, ⟨_, xc_26_1, xe_26_1⟩, ⟨_, xc_26_2, xe_26_2⟩, ⟨_, xc_26_3, xe_26_3⟩, ⟨_, xc_26_4, xe_26_4⟩, ⟨_, xc_26_5, xe_26_5⟩, ⟨_, xc_26_6, xe_26_6⟩, ⟨_, xc_26_7, xe_26_7⟩, ⟨_, xc_26_8, xe_26_8⟩, trivial⟩
/-- SquareMesh$Mesh.liftRound -/
theorem xj_27 : ∀ pc, pI 27 pc = pJ_27 pc := fun _ => rfl
noncomputable def xb_27_2 : List zF := [zq_vret]
noncomputable def xf_27_2 : zE → zKn := fun E => zq_vret (zNil) E
theorem xe_27_2 : xf_27_2 = zEx xb_27_2 := by
  unfold xf_27_2 xb_27_2
  rfl
theorem xc_27_2 : zCd 27 [0, 2, 63] 63 xb_27_2 := zc_return_ xj_27 64 rfl rfl (trivial)
noncomputable def xb_27_1 : List zF := [zq_ildg zG1, zq_k 40, zq_ic_ge 63, zq_aldg zG0, zq_getfg 1 zG9, zq_ildg zG1, zq_aldg zG0, zq_getfg 1 zG0, zq_getfg 5 zG0, zq_ildg zG1, zq_ild_ 0, zq_i2l, zq_aldg zG0, zq_getfg 1 zG0, zq_getfg 5 zG0, zq_ildg zG1, zq_ild_ 0, zq_i2l, zq_lmul, zq_aldg zG0, zq_getfg 1 zG0, zq_getfg 5 zG1, zq_ildg zG1, zq_ild_ 0, zq_i2l, zq_aldg zG0, zq_getfg 1 zG0, zq_getfg 5 zG1, zq_ildg zG1, zq_ild_ 0, zq_i2l, zq_lmul, zq_ladd, zq_last, zq_incg zG1 zE1 1, zq_goto 2]
noncomputable def xf_27_1 : zE → zKn := fun E => zq_ildg zG1 (zq_k 40 (zq_ic_ge 63 (zq_aldg zG0 (zq_getfg 1 zG9 (zq_ildg zG1 (zq_aldg zG0 (zq_getfg 1 zG0 (zq_getfg 5 zG0 (zq_ildg zG1 (zq_ild_ 0 (zq_i2l (zq_aldg zG0 (zq_getfg 1 zG0 (zq_getfg 5 zG0 (zq_ildg zG1 (zq_ild_ 0 (zq_i2l (zq_lmul (zq_aldg zG0 (zq_getfg 1 zG0 (zq_getfg 5 zG1 (zq_ildg zG1 (zq_ild_ 0 (zq_i2l (zq_aldg zG0 (zq_getfg 1 zG0 (zq_getfg 5 zG1 (zq_ildg zG1 (zq_ild_ 0 (zq_i2l (zq_lmul (zq_ladd (zq_last (zq_incg zG1 zE1 1 (zq_goto 2 (zNil) E) E) E) E) E) E) E) E) E) E) E) E) E) E) E) E) E) E) E) E) E) E) E) E) E) E) E) E) E) E) E) E) E) E) E) E
set_option maxRecDepth 100000 in
theorem xe_27_1 : xf_27_1 = zEx xb_27_1 := by
  unfold xf_27_1 xb_27_1
  rfl
theorem xc_27_1 : zCd 27 [0, 2, 63] 2 xb_27_1 := zc_iload_n xj_27 3 1 rfl rfl zf_ild_1 (zc_bipush xj_27 5 40 40 rfl rfl rfl (zc_ic_ge xj_27 8 58 63 rfl rfl rfl (zc_aload_n xj_27 9 0 rfl rfl zf_ald_0 (zc_getf xj_27 12 38 1 9 52 rfl rfl (zf_getf_9 _) (zc_iload_n xj_27 13 1 rfl rfl zf_ild_1 (zc_aload_n xj_27 14 0 rfl rfl zf_ald_0 (zc_getf xj_27 17 12 1 0 24 rfl rfl (zf_getf_0 _) (zc_getf xj_27 20 162 5 0 2 rfl rfl (zf_getf_0 _) (zc_iload_n xj_27 21 1 rfl rfl zf_ild_1 (zc_iaload xj_27 22 rfl rfl (zc_i2l xj_27 23 rfl rfl (zc_aload_n xj_27 24 0 rfl rfl zf_ald_0 (zc_getf xj_27 27 12 1 0 24 rfl rfl (zf_getf_0 _) (zc_getf xj_27 30 162 5 0 2 rfl rfl (zf_getf_0 _) (zc_iload_n xj_27 31 1 rfl rfl zf_ild_1 (zc_iaload xj_27 32 rfl rfl (zc_i2l xj_27 33 rfl rfl (zc_lmul xj_27 34 rfl rfl (zc_aload_n xj_27 35 0 rfl rfl zf_ald_0 (zc_getf xj_27 38 12 1 0 24 rfl rfl (zf_getf_0 _) (zc_getf xj_27 41 165 5 1 5 rfl rfl (zf_getf_1 _) (zc_iload_n xj_27 42 1 rfl rfl zf_ild_1 (zc_iaload xj_27 43 rfl rfl (zc_i2l xj_27 44 rfl rfl (zc_aload_n xj_27 45 0 rfl rfl zf_ald_0 (zc_getf xj_27 48 12 1 0 24 rfl rfl (zf_getf_0 _) (zc_getf xj_27 51 165 5 1 5 rfl rfl (zf_getf_1 _) (zc_iload_n xj_27 52 1 rfl rfl zf_ild_1 (zc_iaload xj_27 53 rfl rfl (zc_i2l xj_27 54 rfl rfl (zc_lmul xj_27 55 rfl rfl (zc_ladd xj_27 56 rfl rfl (zc_lastore xj_27 57 rfl rfl (zc_iinc xj_27 60 1 1 1 rfl rfl rfl (zf_inc_1 _) (zc_goto xj_27 61 (-58) 2 rfl rfl rfl (trivial))))))))))))))))))))))))))))))))))))
noncomputable def xb_27_0 : List zF := zq_k 0 :: zq_istg zE1 :: xb_27_1
noncomputable def xf_27_0 : zE → zKn := fun E => zq_k 0 (zq_istg zE1 (xf_27_1 E) E) E
theorem xe_27_0 : xf_27_0 = zEx xb_27_0 := by
  unfold xf_27_0 xb_27_0
  rw [xe_27_1]
  rfl
theorem xc_27_0 : zCd 27 [0, 2, 63] 0 xb_27_0 := zc_iconst xj_27 1 0 0 rfl rfl rfl (zc_istore_n xj_27 2 1 rfl rfl zf_ist_1 (xc_27_1))
noncomputable def xm_27 : Lean.RArray (zE → zKn) := .branch 2 (.leaf xf_27_0) (.branch 63 (.leaf xf_27_1) (.leaf xf_27_2))
theorem xa_27 : zCdAll 27 [0, 2, 63] xm_27 := zAll2_ok (P := fun t => ∃ c, zCd 27 [0, 2, 63] t c ∧ xm_27.get t = zEx c) ⟨⟨_, xc_27_0, xe_27_0⟩, ⟨_, xc_27_1, xe_27_1⟩, ⟨_, xc_27_2, xe_27_2⟩, trivial⟩
/-- SquareMesh$Mesh.liftFrom -/
theorem xj_28 : ∀ pc, pI 28 pc = pJ_28 pc := fun _ => rfl
noncomputable def xb_28_2 : List zF := [zq_vret]
noncomputable def xf_28_2 : zE → zKn := fun E => zq_vret (zNil) E
theorem xe_28_2 : xf_28_2 = zEx xb_28_2 := by
  unfold xf_28_2 xb_28_2
  rfl
theorem xc_28_2 : zCd 28 [0, 2, 34] 34 xb_28_2 := zc_return_ xj_28 35 rfl rfl (trivial)
noncomputable def xb_28_1 : List zF := [zq_ildg zG3, zq_k 40, zq_ic_ge 34, zq_aldg zG0, zq_getfg 1 zG9, zq_ildg zG3, zq_aldg zG0, zq_getfg 1 zG0, zq_ildg zG1, zq_ildg zG2, zq_ildg zG3, zq_calli 96 3 5 4, zq_calls 353 1 1, zq_i2l, zq_last, zq_incg zG3 zE3 1, zq_goto 2]
noncomputable def xf_28_1 : zE → zKn := fun E => zq_ildg zG3 (zq_k 40 (zq_ic_ge 34 (zq_aldg zG0 (zq_getfg 1 zG9 (zq_ildg zG3 (zq_aldg zG0 (zq_getfg 1 zG0 (zq_ildg zG1 (zq_ildg zG2 (zq_ildg zG3 (zq_calli 96 3 5 4 (zq_calls 353 1 1 (zq_i2l (zq_last (zq_incg zG3 zE3 1 (zq_goto 2 (zNil) E) E) E) E) E) E) E) E) E) E) E) E) E) E) E) E) E
theorem xe_28_1 : xf_28_1 = zEx xb_28_1 := by
  unfold xf_28_1 xb_28_1
  rfl
theorem xc_28_1 : zCd 28 [0, 2, 34] 2 xb_28_1 := zc_iload_n xj_28 3 3 rfl rfl zf_ild_3 (zc_bipush xj_28 5 40 40 rfl rfl rfl (zc_ic_ge xj_28 8 29 34 rfl rfl rfl (zc_aload_n xj_28 9 0 rfl rfl zf_ald_0 (zc_getf xj_28 12 38 1 9 52 rfl rfl (zf_getf_9 _) (zc_iload_n xj_28 13 3 rfl rfl zf_ild_3 (zc_aload_n xj_28 14 0 rfl rfl zf_ald_0 (zc_getf xj_28 17 12 1 0 24 rfl rfl (zf_getf_0 _) (zc_iload_n xj_28 18 1 rfl rfl zf_ild_1 (zc_iload_n xj_28 19 2 rfl rfl zf_ild_2 (zc_iload_n xj_28 20 3 rfl rfl zf_ild_3 (zc_invokevirtual1 xj_28 23 115 96 3 54 5 4 rfl rfl rfl rfl (zc_invokestatic2 xj_28 26 196 353 1 90 0 1 rfl rfl rfl rfl (zc_i2l xj_28 27 rfl rfl (zc_lastore xj_28 28 rfl rfl (zc_iinc xj_28 31 3 1 1 rfl rfl rfl (zf_inc_3 _) (zc_goto xj_28 32 (-29) 2 rfl rfl rfl (trivial)))))))))))))))))
noncomputable def xb_28_0 : List zF := zq_k 0 :: zq_istg zE3 :: xb_28_1
noncomputable def xf_28_0 : zE → zKn := fun E => zq_k 0 (zq_istg zE3 (xf_28_1 E) E) E
theorem xe_28_0 : xf_28_0 = zEx xb_28_0 := by
  unfold xf_28_0 xb_28_0
  rw [xe_28_1]
  rfl
theorem xc_28_0 : zCd 28 [0, 2, 34] 0 xb_28_0 := zc_iconst xj_28 1 0 0 rfl rfl rfl (zc_istore_n xj_28 2 3 rfl rfl zf_ist_3 (xc_28_1))
noncomputable def xm_28 : Lean.RArray (zE → zKn) := .branch 2 (.leaf xf_28_0) (.branch 34 (.leaf xf_28_1) (.leaf xf_28_2))
theorem xa_28 : zCdAll 28 [0, 2, 34] xm_28 := zAll2_ok (P := fun t => ∃ c, zCd 28 [0, 2, 34] t c ∧ xm_28.get t = zEx c) ⟨⟨_, xc_28_0, xe_28_0⟩, ⟨_, xc_28_1, xe_28_1⟩, ⟨_, xc_28_2, xe_28_2⟩, trivial⟩
/-- SquareMesh$Mesh.under -/
theorem xj_29 : ∀ pc, pI 29 pc = pJ_29 pc := fun _ => rfl
noncomputable def xb_29_0 : List zF := [zq_aldg zG0, zq_getfg 1 zG0, zq_getfg 5 zG0, zq_ildg zG1, zq_ild_ 0, zq_ildg zG4, zq_sub, zq_i2l, zq_lst 8, zq_aldg zG0, zq_getfg 1 zG0, zq_getfg 5 zG1, zq_ildg zG1, zq_ild_ 0, zq_ildg zG5, zq_sub, zq_i2l, zq_lst 10, zq_aldg zG0, zq_getfg 1 zG0, zq_getfg 5 zG0, zq_ildg zG2, zq_ild_ 0, zq_ildg zG4, zq_sub, zq_i2l, zq_lst 12, zq_aldg zG0, zq_getfg 1 zG0, zq_getfg 5 zG1, zq_ildg zG2, zq_ild_ 0, zq_ildg zG5, zq_sub, zq_i2l, zq_lst 14, zq_aldg zG0, zq_getfg 1 zG0, zq_getfg 5 zG0, zq_ildg zG3, zq_ild_ 0, zq_ildg zG4, zq_sub, zq_i2l, zq_lst 16, zq_aldg zG0, zq_getfg 1 zG0, zq_getfg 5 zG1, zq_ildg zG3, zq_ild_ 0, zq_ildg zG5, zq_sub, zq_i2l, zq_lst 18, zq_aldg zG0, zq_getfg 1 zG9, zq_ildg zG1, zq_ild_ 1, zq_lldg zG6, zq_lsub, zq_lldg zG12, zq_lldg zG18, zq_lmul, zq_lldg zG14, zq_lldg zG16, zq_lmul, zq_lsub, zq_lmul, zq_aldg zG0, zq_getfg 1 zG9, zq_ildg zG2, zq_ild_ 1, zq_lldg zG6, zq_lsub, zq_lldg zG16, zq_lldg zG10, zq_lmul, zq_lldg zG18, zq_lldg zG8, zq_lmul, zq_lsub, zq_lmul, zq_ladd, zq_aldg zG0, zq_getfg 1 zG9, zq_ildg zG3, zq_ild_ 1, zq_lldg zG6, zq_lsub, zq_lldg zG8, zq_lldg zG14, zq_lmul, zq_lldg zG10, zq_lldg zG12, zq_lmul, zq_lsub, zq_lmul, zq_ladd, zq_lret]
noncomputable def xf_29_0 : zE → zKn := fun E => zq_aldg zG0 (zq_getfg 1 zG0 (zq_getfg 5 zG0 (zq_ildg zG1 (zq_ild_ 0 (zq_ildg zG4 (zq_sub (zq_i2l (zq_lst 8 (zq_aldg zG0 (zq_getfg 1 zG0 (zq_getfg 5 zG1 (zq_ildg zG1 (zq_ild_ 0 (zq_ildg zG5 (zq_sub (zq_i2l (zq_lst 10 (zq_aldg zG0 (zq_getfg 1 zG0 (zq_getfg 5 zG0 (zq_ildg zG2 (zq_ild_ 0 (zq_ildg zG4 (zq_sub (zq_i2l (zq_lst 12 (zq_aldg zG0 (zq_getfg 1 zG0 (zq_getfg 5 zG1 (zq_ildg zG2 (zq_ild_ 0 (zq_ildg zG5 (zq_sub (zq_i2l (zq_lst 14 (zq_aldg zG0 (zq_getfg 1 zG0 (zq_getfg 5 zG0 (zq_ildg zG3 (zq_ild_ 0 (zq_ildg zG4 (zq_sub (zq_i2l (zq_lst 16 (zq_aldg zG0 (zq_getfg 1 zG0 (zq_getfg 5 zG1 (zq_ildg zG3 (zq_ild_ 0 (zq_ildg zG5 (zq_sub (zq_i2l (zq_lst 18 (zq_aldg zG0 (zq_getfg 1 zG9 (zq_ildg zG1 (zq_ild_ 1 (zq_lldg zG6 (zq_lsub (zq_lldg zG12 (zq_lldg zG18 (zq_lmul (zq_lldg zG14 (zq_lldg zG16 (zq_lmul (zq_lsub (zq_lmul (zq_aldg zG0 (zq_getfg 1 zG9 (zq_ildg zG2 (zq_ild_ 1 (zq_lldg zG6 (zq_lsub (zq_lldg zG16 (zq_lldg zG10 (zq_lmul (zq_lldg zG18 (zq_lldg zG8 (zq_lmul (zq_lsub (zq_lmul (zq_ladd (zq_aldg zG0 (zq_getfg 1 zG9 (zq_ildg zG3 (zq_ild_ 1 (zq_lldg zG6 (zq_lsub (zq_lldg zG8 (zq_lldg zG14 (zq_lmul (zq_lldg zG10 (zq_lldg zG12 (zq_lmul (zq_lsub (zq_lmul (zq_ladd (zq_lret (zNil) E) E) E) E) E) E) E) E) E) E) E) E) E) E) E) E) E) E) E) E) E) E) E) E) E) E) E) E) E) E) E) E) E) E) E) E) E) E) E) E) E) E) E) E) E) E) E) E) E) E) E) E) E) E) E) E) E) E) E) E) E) E) E) E) E) E) E) E) E) E) E) E) E) E) E) E) E) E) E) E) E) E) E) E) E) E) E) E) E) E) E) E) E) E) E) E) E) E) E
set_option maxRecDepth 100000 in
theorem xe_29_0 : xf_29_0 = zEx xb_29_0 := by
  unfold xf_29_0 xb_29_0
  rfl
theorem xc_29_0 : zCd 29 [0] 0 xb_29_0 := zc_aload_n xj_29 1 0 rfl rfl zf_ald_0 (zc_getf xj_29 4 12 1 0 24 rfl rfl (zf_getf_0 _) (zc_getf xj_29 7 162 5 0 2 rfl rfl (zf_getf_0 _) (zc_iload_n xj_29 8 1 rfl rfl zf_ild_1 (zc_iaload xj_29 9 rfl rfl (zc_iload xj_29 11 4 rfl rfl zf_ild_4 (zc_isub xj_29 12 rfl rfl (zc_i2l xj_29 13 rfl rfl (zc_lstore xj_29 15 8 rfl rfl rfl (zc_aload_n xj_29 16 0 rfl rfl zf_ald_0 (zc_getf xj_29 19 12 1 0 24 rfl rfl (zf_getf_0 _) (zc_getf xj_29 22 165 5 1 5 rfl rfl (zf_getf_1 _) (zc_iload_n xj_29 23 1 rfl rfl zf_ild_1 (zc_iaload xj_29 24 rfl rfl (zc_iload xj_29 26 5 rfl rfl zf_ild_5 (zc_isub xj_29 27 rfl rfl (zc_i2l xj_29 28 rfl rfl (zc_lstore xj_29 30 10 rfl rfl rfl (zc_aload_n xj_29 31 0 rfl rfl zf_ald_0 (zc_getf xj_29 34 12 1 0 24 rfl rfl (zf_getf_0 _) (zc_getf xj_29 37 162 5 0 2 rfl rfl (zf_getf_0 _) (zc_iload_n xj_29 38 2 rfl rfl zf_ild_2 (zc_iaload xj_29 39 rfl rfl (zc_iload xj_29 41 4 rfl rfl zf_ild_4 (zc_isub xj_29 42 rfl rfl (zc_i2l xj_29 43 rfl rfl (zc_lstore xj_29 45 12 rfl rfl rfl (zc_aload_n xj_29 46 0 rfl rfl zf_ald_0 (zc_getf xj_29 49 12 1 0 24 rfl rfl (zf_getf_0 _) (zc_getf xj_29 52 165 5 1 5 rfl rfl (zf_getf_1 _) (zc_iload_n xj_29 53 2 rfl rfl zf_ild_2 (zc_iaload xj_29 54 rfl rfl (zc_iload xj_29 56 5 rfl rfl zf_ild_5 (zc_isub xj_29 57 rfl rfl (zc_i2l xj_29 58 rfl rfl (zc_lstore xj_29 60 14 rfl rfl rfl (zc_aload_n xj_29 61 0 rfl rfl zf_ald_0 (zc_getf xj_29 64 12 1 0 24 rfl rfl (zf_getf_0 _) (zc_getf xj_29 67 162 5 0 2 rfl rfl (zf_getf_0 _) (zc_iload_n xj_29 68 3 rfl rfl zf_ild_3 (zc_iaload xj_29 69 rfl rfl (zc_iload xj_29 71 4 rfl rfl zf_ild_4 (zc_isub xj_29 72 rfl rfl (zc_i2l xj_29 73 rfl rfl (zc_lstore xj_29 75 16 rfl rfl rfl (zc_aload_n xj_29 76 0 rfl rfl zf_ald_0 (zc_getf xj_29 79 12 1 0 24 rfl rfl (zf_getf_0 _) (zc_getf xj_29 82 165 5 1 5 rfl rfl (zf_getf_1 _) (zc_iload_n xj_29 83 3 rfl rfl zf_ild_3 (zc_iaload xj_29 84 rfl rfl (zc_iload xj_29 86 5 rfl rfl zf_ild_5 (zc_isub xj_29 87 rfl rfl (zc_i2l xj_29 88 rfl rfl (zc_lstore xj_29 90 18 rfl rfl rfl (zc_aload_n xj_29 91 0 rfl rfl zf_ald_0 (zc_getf xj_29 94 38 1 9 52 rfl rfl (zf_getf_9 _) (zc_iload_n xj_29 95 1 rfl rfl zf_ild_1 (zc_laload xj_29 96 rfl rfl (zc_lload xj_29 98 6 rfl rfl zf_lld_6 (zc_lsub xj_29 99 rfl rfl (zc_lload xj_29 101 12 rfl rfl zf_lld_12 (zc_lload xj_29 103 18 rfl rfl zf_lld_18 (zc_lmul xj_29 104 rfl rfl (zc_lload xj_29 106 14 rfl rfl zf_lld_14 (zc_lload xj_29 108 16 rfl rfl zf_lld_16 (zc_lmul xj_29 109 rfl rfl (zc_lsub xj_29 110 rfl rfl (zc_lmul xj_29 111 rfl rfl (zc_aload_n xj_29 112 0 rfl rfl zf_ald_0 (zc_getf xj_29 115 38 1 9 52 rfl rfl (zf_getf_9 _) (zc_iload_n xj_29 116 2 rfl rfl zf_ild_2 (zc_laload xj_29 117 rfl rfl (zc_lload xj_29 119 6 rfl rfl zf_lld_6 (zc_lsub xj_29 120 rfl rfl (zc_lload xj_29 122 16 rfl rfl zf_lld_16 (zc_lload xj_29 124 10 rfl rfl zf_lld_10 (zc_lmul xj_29 125 rfl rfl (zc_lload xj_29 127 18 rfl rfl zf_lld_18 (zc_lload xj_29 129 8 rfl rfl zf_lld_8 (zc_lmul xj_29 130 rfl rfl (zc_lsub xj_29 131 rfl rfl (zc_lmul xj_29 132 rfl rfl (zc_ladd xj_29 133 rfl rfl (zc_aload_n xj_29 134 0 rfl rfl zf_ald_0 (zc_getf xj_29 137 38 1 9 52 rfl rfl (zf_getf_9 _) (zc_iload_n xj_29 138 3 rfl rfl zf_ild_3 (zc_laload xj_29 139 rfl rfl (zc_lload xj_29 141 6 rfl rfl zf_lld_6 (zc_lsub xj_29 142 rfl rfl (zc_lload xj_29 144 8 rfl rfl zf_lld_8 (zc_lload xj_29 146 14 rfl rfl zf_lld_14 (zc_lmul xj_29 147 rfl rfl (zc_lload xj_29 149 10 rfl rfl zf_lld_10 (zc_lload xj_29 151 12 rfl rfl zf_lld_12 (zc_lmul xj_29 152 rfl rfl (zc_lsub xj_29 153 rfl rfl (zc_lmul xj_29 154 rfl rfl (zc_ladd xj_29 155 rfl rfl (zc_lreturn xj_29 156 rfl rfl (trivial)))))))))))))))))))))))))))))))))))))))))))))))))))))))))))))))))))))))))))))))))))))))))))))))))))
noncomputable def xm_29 : Lean.RArray (zE → zKn) := .leaf xf_29_0
theorem xa_29 : zCdAll 29 [0] xm_29 := zAll2_ok (P := fun t => ∃ c, zCd 29 [0] t c ∧ xm_29.get t = zEx c) ⟨⟨_, xc_29_0, xe_29_0⟩, trivial⟩
/-- SquareMesh$Mesh.underCircle -/
theorem xj_30 : ∀ pc, pI 30 pc = pJ_30 pc := fun _ => rfl
noncomputable def xb_30_0 : List zF := [zq_ildg zG2, zq_i2l, zq_ildg zG2, zq_i2l, zq_lmul, zq_ildg zG3, zq_i2l, zq_ildg zG3, zq_i2l, zq_lmul, zq_ladd, zq_lst 4, zq_aldg zG0, zq_aldg zG0, zq_ildg zG1, zq_k 0, zq_calli 35 2 1 3, zq_aldg zG0, zq_ildg zG1, zq_k 1, zq_calli 35 2 1 3, zq_aldg zG0, zq_ildg zG1, zq_k 2, zq_calli 35 2 1 3, zq_ildg zG2, zq_ildg zG3, zq_lldg zG4, zq_calli 29 6 1 20, zq_lret]
noncomputable def xf_30_0 : zE → zKn := fun E => zq_ildg zG2 (zq_i2l (zq_ildg zG2 (zq_i2l (zq_lmul (zq_ildg zG3 (zq_i2l (zq_ildg zG3 (zq_i2l (zq_lmul (zq_ladd (zq_lst 4 (zq_aldg zG0 (zq_aldg zG0 (zq_ildg zG1 (zq_k 0 (zq_calli 35 2 1 3 (zq_aldg zG0 (zq_ildg zG1 (zq_k 1 (zq_calli 35 2 1 3 (zq_aldg zG0 (zq_ildg zG1 (zq_k 2 (zq_calli 35 2 1 3 (zq_ildg zG2 (zq_ildg zG3 (zq_lldg zG4 (zq_calli 29 6 1 20 (zq_lret (zNil) E) E) E) E) E) E) E) E) E) E) E) E) E) E) E) E) E) E) E) E) E) E) E) E) E) E) E) E) E) E
theorem xe_30_0 : xf_30_0 = zEx xb_30_0 := by
  unfold xf_30_0 xb_30_0
  rfl
theorem xc_30_0 : zCd 30 [0] 0 xb_30_0 := zc_iload_n xj_30 1 2 rfl rfl zf_ild_2 (zc_i2l xj_30 2 rfl rfl (zc_iload_n xj_30 3 2 rfl rfl zf_ild_2 (zc_i2l xj_30 4 rfl rfl (zc_lmul xj_30 5 rfl rfl (zc_iload_n xj_30 6 3 rfl rfl zf_ild_3 (zc_i2l xj_30 7 rfl rfl (zc_iload_n xj_30 8 3 rfl rfl zf_ild_3 (zc_i2l xj_30 9 rfl rfl (zc_lmul xj_30 10 rfl rfl (zc_ladd xj_30 11 rfl rfl (zc_lstore xj_30 13 4 rfl rfl rfl (zc_aload_n xj_30 14 0 rfl rfl zf_ald_0 (zc_aload_n xj_30 15 0 rfl rfl zf_ald_0 (zc_iload_n xj_30 16 1 rfl rfl zf_ild_1 (zc_iconst xj_30 17 0 0 rfl rfl rfl (zc_invokevirtual1 xj_30 20 103 35 2 50 1 3 rfl rfl rfl rfl (zc_aload_n xj_30 21 0 rfl rfl zf_ald_0 (zc_iload_n xj_30 22 1 rfl rfl zf_ild_1 (zc_iconst xj_30 23 1 1 rfl rfl rfl (zc_invokevirtual1 xj_30 26 103 35 2 50 1 3 rfl rfl rfl rfl (zc_aload_n xj_30 27 0 rfl rfl zf_ald_0 (zc_iload_n xj_30 28 1 rfl rfl zf_ild_1 (zc_iconst xj_30 29 2 2 rfl rfl rfl (zc_invokevirtual1 xj_30 32 103 35 2 50 1 3 rfl rfl rfl rfl (zc_iload_n xj_30 33 2 rfl rfl zf_ild_2 (zc_iload_n xj_30 34 3 rfl rfl zf_ild_3 (zc_lload xj_30 36 4 rfl rfl zf_lld_4 (zc_invokevirtual1 xj_30 39 168 29 6 63 1 20 rfl rfl rfl rfl (zc_lreturn xj_30 40 rfl rfl (trivial))))))))))))))))))))))))))))))
noncomputable def xm_30 : Lean.RArray (zE → zKn) := .leaf xf_30_0
theorem xa_30 : zCdAll 30 [0] xm_30 := zAll2_ok (P := fun t => ∃ c, zCd 30 [0] t c ∧ xm_30.get t = zEx c) ⟨⟨_, xc_30_0, xe_30_0⟩, trivial⟩
/-- SquareMesh$Mesh.list -/
theorem xj_31 : ∀ pc, pI 31 pc = pJ_31 pc := fun _ => rfl
noncomputable def xb_31_7 : List zF := [zq_vret]
noncomputable def xf_31_7 : zE → zKn := fun E => zq_vret (zNil) E
theorem xe_31_7 : xf_31_7 = zEx xb_31_7 := by
  unfold xf_31_7 xb_31_7
  rfl
theorem xc_31_7 : zCd 31 [0, 20, 30, 79, 85, 97, 103, 109] 109 xb_31_7 := zc_return_ xj_31 110 rfl rfl (trivial)
noncomputable def xb_31_6 : List zF := [zq_incg zG1 zE1 1, zq_goto 20]
noncomputable def xf_31_6 : zE → zKn := fun E => zq_incg zG1 zE1 1 (zq_goto 20 (zNil) E) E
theorem xe_31_6 : xf_31_6 = zEx xb_31_6 := by
  unfold xf_31_6 xb_31_6
  rfl
theorem xc_31_6 : zCd 31 [0, 20, 30, 79, 85, 97, 103, 109] 103 xb_31_6 := zc_iinc xj_31 106 1 1 1 rfl rfl rfl (zf_inc_1 _) (zc_goto xj_31 107 (-86) 20 rfl rfl rfl (trivial))
noncomputable def xb_31_5 : List zF := [zq_incg zG2 zE2 1, zq_goto 30]
noncomputable def xf_31_5 : zE → zKn := fun E => zq_incg zG2 zE2 1 (zq_goto 30 (zNil) E) E
theorem xe_31_5 : xf_31_5 = zEx xb_31_5 := by
  unfold xf_31_5 xb_31_5
  rfl
theorem xc_31_5 : zCd 31 [0, 20, 30, 79, 85, 97, 103, 109] 97 xb_31_5 := zc_iinc xj_31 100 2 1 1 rfl rfl rfl (zf_inc_2 _) (zc_goto xj_31 101 (-70) 30 rfl rfl rfl (trivial))
noncomputable def xb_31_4 : List zF := zq_ildg zG3 :: zq_ildg zG1 :: zq_ic_le 97 :: zq_aldg zG0 :: zq_ildg zG1 :: zq_ildg zG2 :: zq_ildg zG3 :: zq_calli 33 3 1 4 :: xb_31_5
noncomputable def xf_31_4 : zE → zKn := fun E => zq_ildg zG3 (zq_ildg zG1 (zq_ic_le 97 (zq_aldg zG0 (zq_ildg zG1 (zq_ildg zG2 (zq_ildg zG3 (zq_calli 33 3 1 4 (xf_31_5 E) E) E) E) E) E) E) E) E
theorem xe_31_4 : xf_31_4 = zEx xb_31_4 := by
  unfold xf_31_4 xb_31_4
  rw [xe_31_5]
  rfl
theorem xc_31_4 : zCd 31 [0, 20, 30, 79, 85, 97, 103, 109] 85 xb_31_4 := zc_iload_n xj_31 86 3 rfl rfl zf_ild_3 (zc_iload_n xj_31 87 1 rfl rfl zf_ild_1 (zc_ic_le xj_31 90 10 97 rfl rfl rfl (zc_aload_n xj_31 91 0 rfl rfl zf_ald_0 (zc_iload_n xj_31 92 1 rfl rfl zf_ild_1 (zc_iload_n xj_31 93 2 rfl rfl zf_ild_2 (zc_iload_n xj_31 94 3 rfl rfl zf_ild_3 (zc_invokevirtual1 xj_31 97 207 33 3 28 1 4 rfl rfl rfl rfl (xc_31_5))))))))
noncomputable def xb_31_3 : List zF := zq_aldg zG0 :: zq_ildg zG1 :: zq_ildg zG2 :: zq_calli 32 2 1 3 :: xb_31_4
noncomputable def xf_31_3 : zE → zKn := fun E => zq_aldg zG0 (zq_ildg zG1 (zq_ildg zG2 (zq_calli 32 2 1 3 (xf_31_4 E) E) E) E) E
theorem xe_31_3 : xf_31_3 = zEx xb_31_3 := by
  unfold xf_31_3 xb_31_3
  rw [xe_31_4]
  rfl
theorem xc_31_3 : zCd 31 [0, 20, 30, 79, 85, 97, 103, 109] 79 xb_31_3 := zc_aload_n xj_31 80 0 rfl rfl zf_ald_0 (zc_iload_n xj_31 81 1 rfl rfl zf_ild_1 (zc_iload_n xj_31 82 2 rfl rfl zf_ild_2 (zc_invokevirtual1 xj_31 85 204 32 2 27 1 3 rfl rfl rfl rfl (xc_31_4))))
noncomputable def xb_31_2 : List zF := zq_ildg zG2 :: zq_k 40 :: zq_ic_ge 103 :: zq_aldg zG0 :: zq_getfg 1 zG0 :: zq_ildg zG1 :: zq_calli 82 1 5 2 :: zq_if_eq 103 :: zq_aldg zG0 :: zq_getfg 1 zG1 :: zq_ildg zG1 :: zq_k 40 :: zq_mul :: zq_ildg zG2 :: zq_add :: zq_ild_ 0 :: zq_istg zE3 :: zq_ildg zG3 :: zq_k 4294967295 :: zq_ic_ne 79 :: zq_aldg zG0 :: zq_getfg 1 zG1 :: zq_ildg zG2 :: zq_k 40 :: zq_mul :: zq_ildg zG1 :: zq_add :: zq_ild_ 0 :: zq_k 4294967295 :: zq_ic_eq 85 :: xb_31_3
noncomputable def xf_31_2 : zE → zKn := fun E => zq_ildg zG2 (zq_k 40 (zq_ic_ge 103 (zq_aldg zG0 (zq_getfg 1 zG0 (zq_ildg zG1 (zq_calli 82 1 5 2 (zq_if_eq 103 (zq_aldg zG0 (zq_getfg 1 zG1 (zq_ildg zG1 (zq_k 40 (zq_mul (zq_ildg zG2 (zq_add (zq_ild_ 0 (zq_istg zE3 (zq_ildg zG3 (zq_k 4294967295 (zq_ic_ne 79 (zq_aldg zG0 (zq_getfg 1 zG1 (zq_ildg zG2 (zq_k 40 (zq_mul (zq_ildg zG1 (zq_add (zq_ild_ 0 (zq_k 4294967295 (zq_ic_eq 85 (xf_31_3 E) E) E) E) E) E) E) E) E) E) E) E) E) E) E) E) E) E) E) E) E) E) E) E) E) E) E) E) E) E) E
theorem xe_31_2 : xf_31_2 = zEx xb_31_2 := by
  unfold xf_31_2 xb_31_2
  rw [xe_31_3]
  rfl
theorem xc_31_2 : zCd 31 [0, 20, 30, 79, 85, 97, 103, 109] 30 xb_31_2 := zc_iload_n xj_31 31 2 rfl rfl zf_ild_2 (zc_bipush xj_31 33 40 40 rfl rfl rfl (zc_ic_ge xj_31 36 70 103 rfl rfl rfl (zc_aload_n xj_31 37 0 rfl rfl zf_ald_0 (zc_getf xj_31 40 12 1 0 24 rfl rfl (zf_getf_0 _) (zc_iload_n xj_31 41 1 rfl rfl zf_ild_1 (zc_invokevirtual1 xj_31 44 175 82 1 26 5 2 rfl rfl rfl rfl (zc_if_eq xj_31 47 59 103 rfl rfl rfl (zc_aload_n xj_31 48 0 rfl rfl zf_ald_0 (zc_getf xj_31 51 18 1 1 29 rfl rfl (zf_getf_1 _) (zc_iload_n xj_31 52 1 rfl rfl zf_ild_1 (zc_bipush xj_31 54 40 40 rfl rfl rfl (zc_imul xj_31 55 rfl rfl (zc_iload_n xj_31 56 2 rfl rfl zf_ild_2 (zc_iadd xj_31 57 rfl rfl (zc_iaload xj_31 58 rfl rfl (zc_istore_n xj_31 59 3 rfl rfl zf_ist_3 (zc_iload_n xj_31 60 3 rfl rfl zf_ild_3 (zc_iconst xj_31 61 (-1) 4294967295 rfl rfl rfl (zc_ic_ne xj_31 64 18 79 rfl rfl rfl (zc_aload_n xj_31 65 0 rfl rfl zf_ald_0 (zc_getf xj_31 68 18 1 1 29 rfl rfl (zf_getf_1 _) (zc_iload_n xj_31 69 2 rfl rfl zf_ild_2 (zc_bipush xj_31 71 40 40 rfl rfl rfl (zc_imul xj_31 72 rfl rfl (zc_iload_n xj_31 73 1 rfl rfl zf_ild_1 (zc_iadd xj_31 74 rfl rfl (zc_iaload xj_31 75 rfl rfl (zc_iconst xj_31 76 (-1) 4294967295 rfl rfl rfl (zc_ic_eq xj_31 79 9 85 rfl rfl rfl (xc_31_3))))))))))))))))))))))))))))))
noncomputable def xb_31_1 : List zF := zq_ildg zG1 :: zq_k 40 :: zq_ic_ge 109 :: zq_ildg zG1 :: zq_k 1 :: zq_add :: zq_istg zE2 :: xb_31_2
noncomputable def xf_31_1 : zE → zKn := fun E => zq_ildg zG1 (zq_k 40 (zq_ic_ge 109 (zq_ildg zG1 (zq_k 1 (zq_add (zq_istg zE2 (xf_31_2 E) E) E) E) E) E) E) E
theorem xe_31_1 : xf_31_1 = zEx xb_31_1 := by
  unfold xf_31_1 xb_31_1
  rw [xe_31_2]
  rfl
theorem xc_31_1 : zCd 31 [0, 20, 30, 79, 85, 97, 103, 109] 20 xb_31_1 := zc_iload_n xj_31 21 1 rfl rfl zf_ild_1 (zc_bipush xj_31 23 40 40 rfl rfl rfl (zc_ic_ge xj_31 26 86 109 rfl rfl rfl (zc_iload_n xj_31 27 1 rfl rfl zf_ild_1 (zc_iconst xj_31 28 1 1 rfl rfl rfl (zc_iadd xj_31 29 rfl rfl (zc_istore_n xj_31 30 2 rfl rfl zf_ist_2 (xc_31_2)))))))
noncomputable def xb_31_0 : List zF := zq_aldg zG0 :: zq_k 0 :: zq_putf 1 7 0 :: zq_aldg zG0 :: zq_k 0 :: zq_putf 1 8 0 :: zq_aldg zG0 :: zq_getfg 1 zG5 :: zq_kl 0 :: zq_filll :: zq_k 0 :: zq_istg zE1 :: xb_31_1
noncomputable def xf_31_0 : zE → zKn := fun E => zq_aldg zG0 (zq_k 0 (zq_putf 1 7 0 (zq_aldg zG0 (zq_k 0 (zq_putf 1 8 0 (zq_aldg zG0 (zq_getfg 1 zG5 (zq_kl 0 (zq_filll (zq_k 0 (zq_istg zE1 (xf_31_1 E) E) E) E) E) E) E) E) E) E) E) E) E
theorem xe_31_0 : xf_31_0 = zEx xb_31_0 := by
  unfold xf_31_0 xb_31_0
  rw [xe_31_1]
  rfl
theorem xc_31_0 : zCd 31 [0, 20, 30, 79, 85, 97, 103, 109] 0 xb_31_0 := zc_aload_n xj_31 1 0 rfl rfl zf_ald_0 (zc_iconst xj_31 2 0 0 rfl rfl rfl (zc_putf xj_31 5 78 1 7 45 0 rfl rfl rfl (zc_aload_n xj_31 6 0 rfl rfl zf_ald_0 (zc_iconst xj_31 7 0 0 rfl rfl rfl (zc_putf xj_31 10 155 1 8 50 0 rfl rfl rfl (zc_aload_n xj_31 11 0 rfl rfl zf_ald_0 (zc_getf xj_31 14 31 1 5 39 rfl rfl (zf_getf_5 _) (zc_lconst xj_31 15 0 rfl rfl (zc_any xj_31 18 (.invokestatic 201) [2, 355, 2, 25, 0, 5] rfl rfl (zq_filll) rfl rfl (zc_iconst xj_31 19 0 0 rfl rfl rfl (zc_istore_n xj_31 20 1 rfl rfl zf_ist_1 (xc_31_1))))))))))))
noncomputable def xm_31 : Lean.RArray (zE → zKn) := .branch 85 (.branch 30 (.branch 20 (.leaf xf_31_0) (.leaf xf_31_1)) (.branch 79 (.leaf xf_31_2) (.leaf xf_31_3))) (.branch 103 (.branch 97 (.leaf xf_31_4) (.leaf xf_31_5)) (.branch 109 (.leaf xf_31_6) (.leaf xf_31_7)))
theorem xa_31 : zCdAll 31 [0, 20, 30, 79, 85, 97, 103, 109] xm_31 := zAll2_ok (P := fun t => ∃ c, zCd 31 [0, 20, 30, 79, 85, 97, 103, 109] t c ∧ xm_31.get t = zEx c) ⟨⟨_, xc_31_0, xe_31_0⟩, ⟨_, xc_31_1, xe_31_1⟩, ⟨_, xc_31_2, xe_31_2⟩, ⟨_, xc_31_3, xe_31_3⟩, ⟨_, xc_31_4, xe_31_4⟩, ⟨_, xc_31_5, xe_31_5⟩, ⟨_, xc_31_6, xe_31_6⟩, ⟨_, xc_31_7, xe_31_7⟩, trivial⟩
/-- SquareMesh$Mesh.listEdge -/
theorem xj_32 : ∀ pc, pI 32 pc = pJ_32 pc := fun _ => rfl
noncomputable def xb_32_1 : List zF := [zq_vret]
noncomputable def xf_32_1 : zE → zKn := fun E => zq_vret (zNil) E
theorem xe_32_1 : xf_32_1 = zEx xb_32_1 := by
  unfold xf_32_1 xb_32_1
  rfl
theorem xc_32_1 : zCd 32 [0, 69] 69 xb_32_1 := zc_return_ xj_32 70 rfl rfl (trivial)
noncomputable def xb_32_0 : List zF := zq_aldg zG0 :: zq_getfg 1 zG5 :: zq_ildg zG1 :: zq_dup2 :: zq_ild_ 1 :: zq_kl 1 :: zq_ildg zG2 :: zq_lshl :: zq_lor :: zq_last :: zq_aldg zG0 :: zq_getfg 1 zG5 :: zq_ildg zG2 :: zq_dup2 :: zq_ild_ 1 :: zq_kl 1 :: zq_ildg zG1 :: zq_lshl :: zq_lor :: zq_last :: zq_aldg zG0 :: zq_getfg 1 zG8 :: zq_k 113 :: zq_ic_ge 69 :: zq_aldg zG0 :: zq_getfg 1 zG4 :: zq_k 2 :: zq_aldg zG0 :: zq_getfg 1 zG8 :: zq_mul :: zq_ildg zG1 :: zq_iast :: zq_aldg zG0 :: zq_getfg 1 zG4 :: zq_k 2 :: zq_aldg zG0 :: zq_getfg 1 zG8 :: zq_mul :: zq_k 1 :: zq_add :: zq_ildg zG2 :: zq_iast :: zq_aldg zG0 :: zq_dup :: zq_getfg 1 zG8 :: zq_k 1 :: zq_add :: zq_putf 1 8 0 :: xb_32_1
noncomputable def xf_32_0 : zE → zKn := fun E => zq_aldg zG0 (zq_getfg 1 zG5 (zq_ildg zG1 (zq_dup2 (zq_ild_ 1 (zq_kl 1 (zq_ildg zG2 (zq_lshl (zq_lor (zq_last (zq_aldg zG0 (zq_getfg 1 zG5 (zq_ildg zG2 (zq_dup2 (zq_ild_ 1 (zq_kl 1 (zq_ildg zG1 (zq_lshl (zq_lor (zq_last (zq_aldg zG0 (zq_getfg 1 zG8 (zq_k 113 (zq_ic_ge 69 (zq_aldg zG0 (zq_getfg 1 zG4 (zq_k 2 (zq_aldg zG0 (zq_getfg 1 zG8 (zq_mul (zq_ildg zG1 (zq_iast (zq_aldg zG0 (zq_getfg 1 zG4 (zq_k 2 (zq_aldg zG0 (zq_getfg 1 zG8 (zq_mul (zq_k 1 (zq_add (zq_ildg zG2 (zq_iast (zq_aldg zG0 (zq_dup (zq_getfg 1 zG8 (zq_k 1 (zq_add (zq_putf 1 8 0 (xf_32_1 E) E) E) E) E) E) E) E) E) E) E) E) E) E) E) E) E) E) E) E) E) E) E) E) E) E) E) E) E) E) E) E) E) E) E) E) E) E) E) E) E) E) E) E) E) E) E) E) E
set_option maxRecDepth 100000 in
theorem xe_32_0 : xf_32_0 = zEx xb_32_0 := by
  unfold xf_32_0 xb_32_0
  rw [xe_32_1]
  rfl
theorem xc_32_0 : zCd 32 [0, 69] 0 xb_32_0 := zc_aload_n xj_32 1 0 rfl rfl zf_ald_0 (zc_getf xj_32 4 31 1 5 39 rfl rfl (zf_getf_5 _) (zc_iload_n xj_32 5 1 rfl rfl zf_ild_1 (zc_dup2 xj_32 6 rfl rfl (zc_laload xj_32 7 rfl rfl (zc_lconst xj_32 8 1 rfl rfl (zc_iload_n xj_32 9 2 rfl rfl zf_ild_2 (zc_lshl xj_32 10 rfl rfl (zc_lor xj_32 11 rfl rfl (zc_lastore xj_32 12 rfl rfl (zc_aload_n xj_32 13 0 rfl rfl zf_ald_0 (zc_getf xj_32 16 31 1 5 39 rfl rfl (zf_getf_5 _) (zc_iload_n xj_32 17 2 rfl rfl zf_ild_2 (zc_dup2 xj_32 18 rfl rfl (zc_laload xj_32 19 rfl rfl (zc_lconst xj_32 20 1 rfl rfl (zc_iload_n xj_32 21 1 rfl rfl zf_ild_1 (zc_lshl xj_32 22 rfl rfl (zc_lor xj_32 23 rfl rfl (zc_lastore xj_32 24 rfl rfl (zc_aload_n xj_32 25 0 rfl rfl zf_ald_0 (zc_getf xj_32 28 155 1 8 50 rfl rfl (zf_getf_8 _) (zc_bipush xj_32 30 113 113 rfl rfl rfl (zc_ic_ge xj_32 33 39 69 rfl rfl rfl (zc_aload_n xj_32 34 0 rfl rfl zf_ald_0 (zc_getf xj_32 37 28 1 4 35 rfl rfl (zf_getf_4 _) (zc_iconst xj_32 38 2 2 rfl rfl rfl (zc_aload_n xj_32 39 0 rfl rfl zf_ald_0 (zc_getf xj_32 42 155 1 8 50 rfl rfl (zf_getf_8 _) (zc_imul xj_32 43 rfl rfl (zc_iload_n xj_32 44 1 rfl rfl zf_ild_1 (zc_iastore xj_32 45 rfl rfl (zc_aload_n xj_32 46 0 rfl rfl zf_ald_0 (zc_getf xj_32 49 28 1 4 35 rfl rfl (zf_getf_4 _) (zc_iconst xj_32 50 2 2 rfl rfl rfl (zc_aload_n xj_32 51 0 rfl rfl zf_ald_0 (zc_getf xj_32 54 155 1 8 50 rfl rfl (zf_getf_8 _) (zc_imul xj_32 55 rfl rfl (zc_iconst xj_32 56 1 1 rfl rfl rfl (zc_iadd xj_32 57 rfl rfl (zc_iload_n xj_32 58 2 rfl rfl zf_ild_2 (zc_iastore xj_32 59 rfl rfl (zc_aload_n xj_32 60 0 rfl rfl zf_ald_0 (zc_dup xj_32 61 rfl rfl (zc_getf xj_32 64 155 1 8 50 rfl rfl (zf_getf_8 _) (zc_iconst xj_32 65 1 1 rfl rfl rfl (zc_iadd xj_32 66 rfl rfl (zc_putf xj_32 69 155 1 8 50 0 rfl rfl rfl (xc_32_1))))))))))))))))))))))))))))))))))))))))))))))))
noncomputable def xm_32 : Lean.RArray (zE → zKn) := .branch 69 (.leaf xf_32_0) (.leaf xf_32_1)
theorem xa_32 : zCdAll 32 [0, 69] xm_32 := zAll2_ok (P := fun t => ∃ c, zCd 32 [0, 69] t c ∧ xm_32.get t = zEx c) ⟨⟨_, xc_32_0, xe_32_0⟩, ⟨_, xc_32_1, xe_32_1⟩, trivial⟩
/-- SquareMesh$Mesh.listTriangle -/
theorem xj_33 : ∀ pc, pI 33 pc = pJ_33 pc := fun _ => rfl
noncomputable def xb_33_1 : List zF := [zq_vret]
noncomputable def xf_33_1 : zE → zKn := fun E => zq_vret (zNil) E
theorem xe_33_1 : xf_33_1 = zEx xb_33_1 := by
  unfold xf_33_1 xb_33_1
  rfl
theorem xc_33_1 : zCd 33 [0, 104] 104 xb_33_1 := zc_return_ xj_33 105 rfl rfl (trivial)
noncomputable def xb_33_0 : List zF := zq_aldg zG0 :: zq_getfg 1 zG7 :: zq_k 74 :: zq_ic_ge 104 :: zq_aldg zG0 :: zq_getfg 1 zG3 :: zq_k 3 :: zq_aldg zG0 :: zq_getfg 1 zG7 :: zq_mul :: zq_ildg zG1 :: zq_iast :: zq_aldg zG0 :: zq_getfg 1 zG3 :: zq_k 3 :: zq_aldg zG0 :: zq_getfg 1 zG7 :: zq_mul :: zq_k 1 :: zq_add :: zq_ildg zG2 :: zq_iast :: zq_aldg zG0 :: zq_getfg 1 zG3 :: zq_k 3 :: zq_aldg zG0 :: zq_getfg 1 zG7 :: zq_mul :: zq_k 2 :: zq_add :: zq_ildg zG3 :: zq_iast :: zq_aldg zG0 :: zq_getfg 1 zG2 :: zq_ildg zG1 :: zq_k 40 :: zq_mul :: zq_ildg zG2 :: zq_add :: zq_aldg zG0 :: zq_getfg 1 zG7 :: zq_iast :: zq_aldg zG0 :: zq_getfg 1 zG2 :: zq_ildg zG2 :: zq_k 40 :: zq_mul :: zq_ildg zG3 :: zq_add :: zq_aldg zG0 :: zq_getfg 1 zG7 :: zq_iast :: zq_aldg zG0 :: zq_getfg 1 zG2 :: zq_ildg zG3 :: zq_k 40 :: zq_mul :: zq_ildg zG1 :: zq_add :: zq_aldg zG0 :: zq_getfg 1 zG7 :: zq_iast :: zq_aldg zG0 :: zq_dup :: zq_getfg 1 zG7 :: zq_k 1 :: zq_add :: zq_putf 1 7 0 :: xb_33_1
noncomputable def xf_33_0 : zE → zKn := fun E => zq_aldg zG0 (zq_getfg 1 zG7 (zq_k 74 (zq_ic_ge 104 (zq_aldg zG0 (zq_getfg 1 zG3 (zq_k 3 (zq_aldg zG0 (zq_getfg 1 zG7 (zq_mul (zq_ildg zG1 (zq_iast (zq_aldg zG0 (zq_getfg 1 zG3 (zq_k 3 (zq_aldg zG0 (zq_getfg 1 zG7 (zq_mul (zq_k 1 (zq_add (zq_ildg zG2 (zq_iast (zq_aldg zG0 (zq_getfg 1 zG3 (zq_k 3 (zq_aldg zG0 (zq_getfg 1 zG7 (zq_mul (zq_k 2 (zq_add (zq_ildg zG3 (zq_iast (zq_aldg zG0 (zq_getfg 1 zG2 (zq_ildg zG1 (zq_k 40 (zq_mul (zq_ildg zG2 (zq_add (zq_aldg zG0 (zq_getfg 1 zG7 (zq_iast (zq_aldg zG0 (zq_getfg 1 zG2 (zq_ildg zG2 (zq_k 40 (zq_mul (zq_ildg zG3 (zq_add (zq_aldg zG0 (zq_getfg 1 zG7 (zq_iast (zq_aldg zG0 (zq_getfg 1 zG2 (zq_ildg zG3 (zq_k 40 (zq_mul (zq_ildg zG1 (zq_add (zq_aldg zG0 (zq_getfg 1 zG7 (zq_iast (zq_aldg zG0 (zq_dup (zq_getfg 1 zG7 (zq_k 1 (zq_add (zq_putf 1 7 0 (xf_33_1 E) E) E) E) E) E) E) E) E) E) E) E) E) E) E) E) E) E) E) E) E) E) E) E) E) E) E) E) E) E) E) E) E) E) E) E) E) E) E) E) E) E) E) E) E) E) E) E) E) E) E) E) E) E) E) E) E) E) E) E) E) E) E) E) E) E) E) E) E
set_option maxRecDepth 100000 in
theorem xe_33_0 : xf_33_0 = zEx xb_33_0 := by
  unfold xf_33_0 xb_33_0
  rw [xe_33_1]
  rfl
theorem xc_33_0 : zCd 33 [0, 104] 0 xb_33_0 := zc_aload_n xj_33 1 0 rfl rfl zf_ald_0 (zc_getf xj_33 4 78 1 7 45 rfl rfl (zf_getf_7 _) (zc_bipush xj_33 6 74 74 rfl rfl rfl (zc_ic_ge xj_33 9 98 104 rfl rfl rfl (zc_aload_n xj_33 10 0 rfl rfl zf_ald_0 (zc_getf xj_33 13 25 1 3 33 rfl rfl (zf_getf_3 _) (zc_iconst xj_33 14 3 3 rfl rfl rfl (zc_aload_n xj_33 15 0 rfl rfl zf_ald_0 (zc_getf xj_33 18 78 1 7 45 rfl rfl (zf_getf_7 _) (zc_imul xj_33 19 rfl rfl (zc_iload_n xj_33 20 1 rfl rfl zf_ild_1 (zc_iastore xj_33 21 rfl rfl (zc_aload_n xj_33 22 0 rfl rfl zf_ald_0 (zc_getf xj_33 25 25 1 3 33 rfl rfl (zf_getf_3 _) (zc_iconst xj_33 26 3 3 rfl rfl rfl (zc_aload_n xj_33 27 0 rfl rfl zf_ald_0 (zc_getf xj_33 30 78 1 7 45 rfl rfl (zf_getf_7 _) (zc_imul xj_33 31 rfl rfl (zc_iconst xj_33 32 1 1 rfl rfl rfl (zc_iadd xj_33 33 rfl rfl (zc_iload_n xj_33 34 2 rfl rfl zf_ild_2 (zc_iastore xj_33 35 rfl rfl (zc_aload_n xj_33 36 0 rfl rfl zf_ald_0 (zc_getf xj_33 39 25 1 3 33 rfl rfl (zf_getf_3 _) (zc_iconst xj_33 40 3 3 rfl rfl rfl (zc_aload_n xj_33 41 0 rfl rfl zf_ald_0 (zc_getf xj_33 44 78 1 7 45 rfl rfl (zf_getf_7 _) (zc_imul xj_33 45 rfl rfl (zc_iconst xj_33 46 2 2 rfl rfl rfl (zc_iadd xj_33 47 rfl rfl (zc_iload_n xj_33 48 3 rfl rfl zf_ild_3 (zc_iastore xj_33 49 rfl rfl (zc_aload_n xj_33 50 0 rfl rfl zf_ald_0 (zc_getf xj_33 53 22 1 2 31 rfl rfl (zf_getf_2 _) (zc_iload_n xj_33 54 1 rfl rfl zf_ild_1 (zc_bipush xj_33 56 40 40 rfl rfl rfl (zc_imul xj_33 57 rfl rfl (zc_iload_n xj_33 58 2 rfl rfl zf_ild_2 (zc_iadd xj_33 59 rfl rfl (zc_aload_n xj_33 60 0 rfl rfl zf_ald_0 (zc_getf xj_33 63 78 1 7 45 rfl rfl (zf_getf_7 _) (zc_iastore xj_33 64 rfl rfl (zc_aload_n xj_33 65 0 rfl rfl zf_ald_0 (zc_getf xj_33 68 22 1 2 31 rfl rfl (zf_getf_2 _) (zc_iload_n xj_33 69 2 rfl rfl zf_ild_2 (zc_bipush xj_33 71 40 40 rfl rfl rfl (zc_imul xj_33 72 rfl rfl (zc_iload_n xj_33 73 3 rfl rfl zf_ild_3 (zc_iadd xj_33 74 rfl rfl (zc_aload_n xj_33 75 0 rfl rfl zf_ald_0 (zc_getf xj_33 78 78 1 7 45 rfl rfl (zf_getf_7 _) (zc_iastore xj_33 79 rfl rfl (zc_aload_n xj_33 80 0 rfl rfl zf_ald_0 (zc_getf xj_33 83 22 1 2 31 rfl rfl (zf_getf_2 _) (zc_iload_n xj_33 84 3 rfl rfl zf_ild_3 (zc_bipush xj_33 86 40 40 rfl rfl rfl (zc_imul xj_33 87 rfl rfl (zc_iload_n xj_33 88 1 rfl rfl zf_ild_1 (zc_iadd xj_33 89 rfl rfl (zc_aload_n xj_33 90 0 rfl rfl zf_ald_0 (zc_getf xj_33 93 78 1 7 45 rfl rfl (zf_getf_7 _) (zc_iastore xj_33 94 rfl rfl (zc_aload_n xj_33 95 0 rfl rfl zf_ald_0 (zc_dup xj_33 96 rfl rfl (zc_getf xj_33 99 78 1 7 45 rfl rfl (zf_getf_7 _) (zc_iconst xj_33 100 1 1 rfl rfl rfl (zc_iadd xj_33 101 rfl rfl (zc_putf xj_33 104 78 1 7 45 0 rfl rfl rfl (xc_33_1))))))))))))))))))))))))))))))))))))))))))))))))))))))))))))))))))))
noncomputable def xm_33 : Lean.RArray (zE → zKn) := .branch 104 (.leaf xf_33_0) (.leaf xf_33_1)
theorem xa_33 : zCdAll 33 [0, 104] xm_33 := zAll2_ok (P := fun t => ∃ c, zCd 33 [0, 104] t c ∧ xm_33.get t = zEx c) ⟨⟨_, xc_33_0, xe_33_0⟩, ⟨_, xc_33_1, xe_33_1⟩, trivial⟩
/-- SquareMesh$Mesh.hasTriangle -/
theorem xj_34 : ∀ pc, pI 34 pc = pJ_34 pc := fun _ => rfl
noncomputable def xb_34_2 : List zF := [zq_iret 1]
noncomputable def xf_34_2 : zE → zKn := fun E => zq_iret 1 (zNil) E
theorem xe_34_2 : xf_34_2 = zEx xb_34_2 := by
  unfold xf_34_2 xb_34_2
  rfl
theorem xc_34_2 : zCd 34 [0, 16, 17] 17 xb_34_2 := zc_ireturn1 xj_34 18 rfl rfl (trivial)
noncomputable def xb_34_1 : List zF := zq_k 0 :: xb_34_2
noncomputable def xf_34_1 : zE → zKn := fun E => zq_k 0 (xf_34_2 E) E
theorem xe_34_1 : xf_34_1 = zEx xb_34_1 := by
  unfold xf_34_1 xb_34_1
  rw [xe_34_2]
  rfl
theorem xc_34_1 : zCd 34 [0, 16, 17] 16 xb_34_1 := zc_iconst xj_34 17 0 0 rfl rfl rfl (xc_34_2)
noncomputable def xb_34_0 : List zF := [zq_ildg zG1, zq_if_lt 16, zq_ildg zG1, zq_aldg zG0, zq_getfg 1 zG7, zq_ic_ge 16, zq_k 1, zq_goto 17]
noncomputable def xf_34_0 : zE → zKn := fun E => zq_ildg zG1 (zq_if_lt 16 (zq_ildg zG1 (zq_aldg zG0 (zq_getfg 1 zG7 (zq_ic_ge 16 (zq_k 1 (zq_goto 17 (zNil) E) E) E) E) E) E) E) E
theorem xe_34_0 : xf_34_0 = zEx xb_34_0 := by
  unfold xf_34_0 xb_34_0
  rfl
theorem xc_34_0 : zCd 34 [0, 16, 17] 0 xb_34_0 := zc_iload_n xj_34 1 1 rfl rfl zf_ild_1 (zc_if_lt xj_34 4 15 16 rfl rfl rfl (zc_iload_n xj_34 5 1 rfl rfl zf_ild_1 (zc_aload_n xj_34 6 0 rfl rfl zf_ald_0 (zc_getf xj_34 9 78 1 7 45 rfl rfl (zf_getf_7 _) (zc_ic_ge xj_34 12 7 16 rfl rfl rfl (zc_iconst xj_34 13 1 1 rfl rfl rfl (zc_goto xj_34 14 4 17 rfl rfl rfl (trivial))))))))
noncomputable def xm_34 : Lean.RArray (zE → zKn) := .branch 16 (.leaf xf_34_0) (.branch 17 (.leaf xf_34_1) (.leaf xf_34_2))
theorem xa_34 : zCdAll 34 [0, 16, 17] xm_34 := zAll2_ok (P := fun t => ∃ c, zCd 34 [0, 16, 17] t c ∧ xm_34.get t = zEx c) ⟨⟨_, xc_34_0, xe_34_0⟩, ⟨_, xc_34_1, xe_34_1⟩, ⟨_, xc_34_2, xe_34_2⟩, trivial⟩
/-- SquareMesh$Mesh.cornerOf -/
theorem xj_35 : ∀ pc, pI 35 pc = pJ_35 pc := fun _ => rfl
noncomputable def xb_35_0 : List zF := [zq_aldg zG0, zq_getfg 1 zG3, zq_k 3, zq_ildg zG1, zq_mul, zq_ildg zG2, zq_add, zq_ild_ 0, zq_iret 0]
noncomputable def xf_35_0 : zE → zKn := fun E => zq_aldg zG0 (zq_getfg 1 zG3 (zq_k 3 (zq_ildg zG1 (zq_mul (zq_ildg zG2 (zq_add (zq_ild_ 0 (zq_iret 0 (zNil) E) E) E) E) E) E) E) E) E
theorem xe_35_0 : xf_35_0 = zEx xb_35_0 := by
  unfold xf_35_0 xb_35_0
  rfl
theorem xc_35_0 : zCd 35 [0] 0 xb_35_0 := zc_aload_n xj_35 1 0 rfl rfl zf_ald_0 (zc_getf xj_35 4 25 1 3 33 rfl rfl (zf_getf_3 _) (zc_iconst xj_35 5 3 3 rfl rfl rfl (zc_iload_n xj_35 6 1 rfl rfl zf_ild_1 (zc_imul xj_35 7 rfl rfl (zc_iload_n xj_35 8 2 rfl rfl zf_ild_2 (zc_iadd xj_35 9 rfl rfl (zc_iaload xj_35 10 rfl rfl (zc_ireturn0 xj_35 11 rfl rfl (trivial)))))))))
noncomputable def xm_35 : Lean.RArray (zE → zKn) := .leaf xf_35_0
theorem xa_35 : zCdAll 35 [0] xm_35 := zAll2_ok (P := fun t => ∃ c, zCd 35 [0] t c ∧ xm_35.get t = zEx c) ⟨⟨_, xc_35_0, xe_35_0⟩, trivial⟩
/-- SquareMesh$Mesh.isNear -/
theorem xj_36 : ∀ pc, pI 36 pc = pJ_36 pc := fun _ => rfl
noncomputable def xb_36_2 : List zF := [zq_iret 1]
noncomputable def xf_36_2 : zE → zKn := fun E => zq_iret 1 (zNil) E
theorem xe_36_2 : xf_36_2 = zEx xb_36_2 := by
  unfold xf_36_2 xb_36_2
  rfl
theorem xc_36_2 : zCd 36 [0, 19, 20] 20 xb_36_2 := zc_ireturn1 xj_36 21 rfl rfl (trivial)
noncomputable def xb_36_1 : List zF := zq_k 0 :: xb_36_2
noncomputable def xf_36_1 : zE → zKn := fun E => zq_k 0 (xf_36_2 E) E
theorem xe_36_1 : xf_36_1 = zEx xb_36_1 := by
  unfold xf_36_1 xb_36_1
  rw [xe_36_2]
  rfl
theorem xc_36_1 : zCd 36 [0, 19, 20] 19 xb_36_1 := zc_iconst xj_36 20 0 0 rfl rfl rfl (xc_36_2)
noncomputable def xb_36_0 : List zF := [zq_aldg zG0, zq_getfg 1 zG5, zq_ildg zG1, zq_ild_ 1, zq_ildg zG2, zq_lushr, zq_kl 1, zq_land, zq_kl 0, zq_lcmp, zq_if_eq 19, zq_k 1, zq_goto 20]
noncomputable def xf_36_0 : zE → zKn := fun E => zq_aldg zG0 (zq_getfg 1 zG5 (zq_ildg zG1 (zq_ild_ 1 (zq_ildg zG2 (zq_lushr (zq_kl 1 (zq_land (zq_kl 0 (zq_lcmp (zq_if_eq 19 (zq_k 1 (zq_goto 20 (zNil) E) E) E) E) E) E) E) E) E) E) E) E) E
theorem xe_36_0 : xf_36_0 = zEx xb_36_0 := by
  unfold xf_36_0 xb_36_0
  rfl
theorem xc_36_0 : zCd 36 [0, 19, 20] 0 xb_36_0 := zc_aload_n xj_36 1 0 rfl rfl zf_ald_0 (zc_getf xj_36 4 31 1 5 39 rfl rfl (zf_getf_5 _) (zc_iload_n xj_36 5 1 rfl rfl zf_ild_1 (zc_laload xj_36 6 rfl rfl (zc_iload_n xj_36 7 2 rfl rfl zf_ild_2 (zc_lushr xj_36 8 rfl rfl (zc_lconst xj_36 9 1 rfl rfl (zc_land xj_36 10 rfl rfl (zc_lconst xj_36 11 0 rfl rfl (zc_lcmp xj_36 12 rfl rfl (zc_if_eq xj_36 15 7 19 rfl rfl rfl (zc_iconst xj_36 16 1 1 rfl rfl rfl (zc_goto xj_36 17 4 20 rfl rfl rfl (trivial)))))))))))))
noncomputable def xm_36 : Lean.RArray (zE → zKn) := .branch 19 (.leaf xf_36_0) (.branch 20 (.leaf xf_36_1) (.leaf xf_36_2))
theorem xa_36 : zCdAll 36 [0, 19, 20] xm_36 := zAll2_ok (P := fun t => ∃ c, zCd 36 [0, 19, 20] t c ∧ xm_36.get t = zEx c) ⟨⟨_, xc_36_0, xe_36_0⟩, ⟨_, xc_36_1, xe_36_1⟩, ⟨_, xc_36_2, xe_36_2⟩, trivial⟩
/-- SquareMesh$Mesh.across -/
theorem xj_37 : ∀ pc, pI 37 pc = pJ_37 pc := fun _ => rfl
noncomputable def xb_37_2 : List zF := [zq_iret 0]
noncomputable def xf_37_2 : zE → zKn := fun E => zq_iret 0 (zNil) E
theorem xe_37_2 : xf_37_2 = zEx xb_37_2 := by
  unfold xf_37_2 xb_37_2
  rfl
theorem xc_37_2 : zCd 37 [0, 35, 41] 41 xb_37_2 := zc_ireturn0 xj_37 42 rfl rfl (trivial)
noncomputable def xb_37_1 : List zF := zq_aldg zG0 :: zq_getfg 1 zG2 :: zq_ildg zG3 :: zq_ild_ 0 :: xb_37_2
noncomputable def xf_37_1 : zE → zKn := fun E => zq_aldg zG0 (zq_getfg 1 zG2 (zq_ildg zG3 (zq_ild_ 0 (xf_37_2 E) E) E) E) E
theorem xe_37_1 : xf_37_1 = zEx xb_37_1 := by
  unfold xf_37_1 xb_37_1
  rw [xe_37_2]
  rfl
theorem xc_37_1 : zCd 37 [0, 35, 41] 35 xb_37_1 := zc_aload_n xj_37 36 0 rfl rfl zf_ald_0 (zc_getf xj_37 39 22 1 2 31 rfl rfl (zf_getf_2 _) (zc_iload_n xj_37 40 3 rfl rfl zf_ild_3 (zc_iaload xj_37 41 rfl rfl (xc_37_2))))
noncomputable def xb_37_0 : List zF := [zq_aldg zG0, zq_ildg zG1, zq_ildg zG2, zq_k 1, zq_add, zq_k 3, zq_rem, zq_calli 35 2 1 3, zq_k 40, zq_mul, zq_aldg zG0, zq_ildg zG1, zq_ildg zG2, zq_calli 35 2 1 3, zq_add, zq_istg zE3, zq_aldg zG0, zq_getfg 1 zG1, zq_ildg zG3, zq_ild_ 0, zq_k 4294967295, zq_ic_ne 35, zq_k 4294967295, zq_goto 41]
noncomputable def xf_37_0 : zE → zKn := fun E => zq_aldg zG0 (zq_ildg zG1 (zq_ildg zG2 (zq_k 1 (zq_add (zq_k 3 (zq_rem (zq_calli 35 2 1 3 (zq_k 40 (zq_mul (zq_aldg zG0 (zq_ildg zG1 (zq_ildg zG2 (zq_calli 35 2 1 3 (zq_add (zq_istg zE3 (zq_aldg zG0 (zq_getfg 1 zG1 (zq_ildg zG3 (zq_ild_ 0 (zq_k 4294967295 (zq_ic_ne 35 (zq_k 4294967295 (zq_goto 41 (zNil) E) E) E) E) E) E) E) E) E) E) E) E) E) E) E) E) E) E) E) E) E) E) E) E
theorem xe_37_0 : xf_37_0 = zEx xb_37_0 := by
  unfold xf_37_0 xb_37_0
  rfl
theorem xc_37_0 : zCd 37 [0, 35, 41] 0 xb_37_0 := zc_aload_n xj_37 1 0 rfl rfl zf_ald_0 (zc_iload_n xj_37 2 1 rfl rfl zf_ild_1 (zc_iload_n xj_37 3 2 rfl rfl zf_ild_2 (zc_iconst xj_37 4 1 1 rfl rfl rfl (zc_iadd xj_37 5 rfl rfl (zc_iconst xj_37 6 3 3 rfl rfl rfl (zc_irem xj_37 7 rfl rfl (zc_invokevirtual1 xj_37 10 103 35 2 50 1 3 rfl rfl rfl rfl (zc_bipush xj_37 12 40 40 rfl rfl rfl (zc_imul xj_37 13 rfl rfl (zc_aload_n xj_37 14 0 rfl rfl zf_ald_0 (zc_iload_n xj_37 15 1 rfl rfl zf_ild_1 (zc_iload_n xj_37 16 2 rfl rfl zf_ild_2 (zc_invokevirtual1 xj_37 19 103 35 2 50 1 3 rfl rfl rfl rfl (zc_iadd xj_37 20 rfl rfl (zc_istore_n xj_37 21 3 rfl rfl zf_ist_3 (zc_aload_n xj_37 22 0 rfl rfl zf_ald_0 (zc_getf xj_37 25 18 1 1 29 rfl rfl (zf_getf_1 _) (zc_iload_n xj_37 26 3 rfl rfl zf_ild_3 (zc_iaload xj_37 27 rfl rfl (zc_iconst xj_37 28 (-1) 4294967295 rfl rfl rfl (zc_ic_ne xj_37 31 7 35 rfl rfl rfl (zc_iconst xj_37 32 (-1) 4294967295 rfl rfl rfl (zc_goto xj_37 33 9 41 rfl rfl rfl (trivial))))))))))))))))))))))))
noncomputable def xm_37 : Lean.RArray (zE → zKn) := .branch 35 (.leaf xf_37_0) (.branch 41 (.leaf xf_37_1) (.leaf xf_37_2))
theorem xa_37 : zCdAll 37 [0, 35, 41] xm_37 := zAll2_ok (P := fun t => ∃ c, zCd 37 [0, 35, 41] t c ∧ xm_37.get t = zEx c) ⟨⟨_, xc_37_0, xe_37_0⟩, ⟨_, xc_37_1, xe_37_1⟩, ⟨_, xc_37_2, xe_37_2⟩, trivial⟩
/-- SquareMesh$Mesh.isOpen -/
theorem xj_38 : ∀ pc, pI 38 pc = pJ_38 pc := fun _ => rfl
noncomputable def xb_38_2 : List zF := [zq_iret 1]
noncomputable def xf_38_2 : zE → zKn := fun E => zq_iret 1 (zNil) E
theorem xe_38_2 : xf_38_2 = zEx xb_38_2 := by
  unfold xf_38_2 xb_38_2
  rfl
theorem xc_38_2 : zCd 38 [0, 30, 31] 31 xb_38_2 := zc_ireturn1 xj_38 32 rfl rfl (trivial)
noncomputable def xb_38_1 : List zF := zq_k 0 :: xb_38_2
noncomputable def xf_38_1 : zE → zKn := fun E => zq_k 0 (xf_38_2 E) E
theorem xe_38_1 : xf_38_1 = zEx xb_38_1 := by
  unfold xf_38_1 xb_38_1
  rw [xe_38_2]
  rfl
theorem xc_38_1 : zCd 38 [0, 30, 31] 30 xb_38_1 := zc_iconst xj_38 31 0 0 rfl rfl rfl (xc_38_2)
noncomputable def xb_38_0 : List zF := [zq_aldg zG0, zq_getfg 1 zG0, zq_aldg zG0, zq_ildg zG1, zq_ildg zG2, zq_calli 35 2 1 3, zq_aldg zG0, zq_ildg zG1, zq_ildg zG2, zq_k 1, zq_add, zq_k 3, zq_rem, zq_calli 35 2 1 3, zq_calli 91 2 5 3, zq_if_ne 30, zq_k 1, zq_goto 31]
noncomputable def xf_38_0 : zE → zKn := fun E => zq_aldg zG0 (zq_getfg 1 zG0 (zq_aldg zG0 (zq_ildg zG1 (zq_ildg zG2 (zq_calli 35 2 1 3 (zq_aldg zG0 (zq_ildg zG1 (zq_ildg zG2 (zq_k 1 (zq_add (zq_k 3 (zq_rem (zq_calli 35 2 1 3 (zq_calli 91 2 5 3 (zq_if_ne 30 (zq_k 1 (zq_goto 31 (zNil) E) E) E) E) E) E) E) E) E) E) E) E) E) E) E) E) E) E
theorem xe_38_0 : xf_38_0 = zEx xb_38_0 := by
  unfold xf_38_0 xb_38_0
  rfl
theorem xc_38_0 : zCd 38 [0, 30, 31] 0 xb_38_0 := zc_aload_n xj_38 1 0 rfl rfl zf_ald_0 (zc_getf xj_38 4 12 1 0 24 rfl rfl (zf_getf_0 _) (zc_aload_n xj_38 5 0 rfl rfl zf_ald_0 (zc_iload_n xj_38 6 1 rfl rfl zf_ild_1 (zc_iload_n xj_38 7 2 rfl rfl zf_ild_2 (zc_invokevirtual1 xj_38 10 103 35 2 50 1 3 rfl rfl rfl rfl (zc_aload_n xj_38 11 0 rfl rfl zf_ald_0 (zc_iload_n xj_38 12 1 rfl rfl zf_ild_1 (zc_iload_n xj_38 13 2 rfl rfl zf_ild_2 (zc_iconst xj_38 14 1 1 rfl rfl rfl (zc_iadd xj_38 15 rfl rfl (zc_iconst xj_38 16 3 3 rfl rfl rfl (zc_irem xj_38 17 rfl rfl (zc_invokevirtual1 xj_38 20 103 35 2 50 1 3 rfl rfl rfl rfl (zc_invokevirtual1 xj_38 23 122 91 2 58 5 3 rfl rfl rfl rfl (zc_if_ne xj_38 26 7 30 rfl rfl rfl (zc_iconst xj_38 27 1 1 rfl rfl rfl (zc_goto xj_38 28 4 31 rfl rfl rfl (trivial))))))))))))))))))
noncomputable def xm_38 : Lean.RArray (zE → zKn) := .branch 30 (.leaf xf_38_0) (.branch 31 (.leaf xf_38_1) (.leaf xf_38_2))
theorem xa_38 : zCdAll 38 [0, 30, 31] xm_38 := zAll2_ok (P := fun t => ∃ c, zCd 38 [0, 30, 31] t c ∧ xm_38.get t = zEx c) ⟨⟨_, xc_38_0, xe_38_0⟩, ⟨_, xc_38_1, xe_38_1⟩, ⟨_, xc_38_2, xe_38_2⟩, trivial⟩
/-- SquareMesh$Mesh.areaOf -/
theorem xj_39 : ∀ pc, pI 39 pc = pJ_39 pc := fun _ => rfl
noncomputable def xb_39_0 : List zF := [zq_aldg zG0, zq_getfg 1 zG0, zq_aldg zG0, zq_ildg zG1, zq_k 0, zq_calli 35 2 1 3, zq_aldg zG0, zq_ildg zG1, zq_k 1, zq_calli 35 2 1 3, zq_aldg zG0, zq_ildg zG1, zq_k 2, zq_calli 35 2 1 3, zq_calli 96 3 5 4, zq_iret 0]
noncomputable def xf_39_0 : zE → zKn := fun E => zq_aldg zG0 (zq_getfg 1 zG0 (zq_aldg zG0 (zq_ildg zG1 (zq_k 0 (zq_calli 35 2 1 3 (zq_aldg zG0 (zq_ildg zG1 (zq_k 1 (zq_calli 35 2 1 3 (zq_aldg zG0 (zq_ildg zG1 (zq_k 2 (zq_calli 35 2 1 3 (zq_calli 96 3 5 4 (zq_iret 0 (zNil) E) E) E) E) E) E) E) E) E) E) E) E) E) E) E) E
theorem xe_39_0 : xf_39_0 = zEx xb_39_0 := by
  unfold xf_39_0 xb_39_0
  rfl
theorem xc_39_0 : zCd 39 [0] 0 xb_39_0 := zc_aload_n xj_39 1 0 rfl rfl zf_ald_0 (zc_getf xj_39 4 12 1 0 24 rfl rfl (zf_getf_0 _) (zc_aload_n xj_39 5 0 rfl rfl zf_ald_0 (zc_iload_n xj_39 6 1 rfl rfl zf_ild_1 (zc_iconst xj_39 7 0 0 rfl rfl rfl (zc_invokevirtual1 xj_39 10 103 35 2 50 1 3 rfl rfl rfl rfl (zc_aload_n xj_39 11 0 rfl rfl zf_ald_0 (zc_iload_n xj_39 12 1 rfl rfl zf_ild_1 (zc_iconst xj_39 13 1 1 rfl rfl rfl (zc_invokevirtual1 xj_39 16 103 35 2 50 1 3 rfl rfl rfl rfl (zc_aload_n xj_39 17 0 rfl rfl zf_ald_0 (zc_iload_n xj_39 18 1 rfl rfl zf_ild_1 (zc_iconst xj_39 19 2 2 rfl rfl rfl (zc_invokevirtual1 xj_39 22 103 35 2 50 1 3 rfl rfl rfl rfl (zc_invokevirtual1 xj_39 25 115 96 3 54 5 4 rfl rfl rfl rfl (zc_ireturn0 xj_39 26 rfl rfl (trivial))))))))))))))))
noncomputable def xm_39 : Lean.RArray (zE → zKn) := .leaf xf_39_0
theorem xa_39 : zCdAll 39 [0] xm_39 := zAll2_ok (P := fun t => ∃ c, zCd 39 [0] t c ∧ xm_39.get t = zEx c) ⟨⟨_, xc_39_0, xe_39_0⟩, trivial⟩
/-- SquareMesh$Mesh.sideOf -/
theorem xj_40 : ∀ pc, pI 40 pc = pJ_40 pc := fun _ => rfl
noncomputable def xb_40_0 : List zF := [zq_aldg zG0, zq_getfg 1 zG0, zq_aldg zG0, zq_ildg zG1, zq_ildg zG2, zq_calli 35 2 1 3, zq_aldg zG0, zq_ildg zG1, zq_ildg zG2, zq_k 1, zq_add, zq_k 3, zq_rem, zq_calli 35 2 1 3, zq_ildg zG3, zq_ildg zG4, zq_calli 95 4 5 5, zq_iret 0]
noncomputable def xf_40_0 : zE → zKn := fun E => zq_aldg zG0 (zq_getfg 1 zG0 (zq_aldg zG0 (zq_ildg zG1 (zq_ildg zG2 (zq_calli 35 2 1 3 (zq_aldg zG0 (zq_ildg zG1 (zq_ildg zG2 (zq_k 1 (zq_add (zq_k 3 (zq_rem (zq_calli 35 2 1 3 (zq_ildg zG3 (zq_ildg zG4 (zq_calli 95 4 5 5 (zq_iret 0 (zNil) E) E) E) E) E) E) E) E) E) E) E) E) E) E) E) E) E) E
theorem xe_40_0 : xf_40_0 = zEx xb_40_0 := by
  unfold xf_40_0 xb_40_0
  rfl
theorem xc_40_0 : zCd 40 [0] 0 xb_40_0 := zc_aload_n xj_40 1 0 rfl rfl zf_ald_0 (zc_getf xj_40 4 12 1 0 24 rfl rfl (zf_getf_0 _) (zc_aload_n xj_40 5 0 rfl rfl zf_ald_0 (zc_iload_n xj_40 6 1 rfl rfl zf_ild_1 (zc_iload_n xj_40 7 2 rfl rfl zf_ild_2 (zc_invokevirtual1 xj_40 10 103 35 2 50 1 3 rfl rfl rfl rfl (zc_aload_n xj_40 11 0 rfl rfl zf_ald_0 (zc_iload_n xj_40 12 1 rfl rfl zf_ild_1 (zc_iload_n xj_40 13 2 rfl rfl zf_ild_2 (zc_iconst xj_40 14 1 1 rfl rfl rfl (zc_iadd xj_40 15 rfl rfl (zc_iconst xj_40 16 3 3 rfl rfl rfl (zc_irem xj_40 17 rfl rfl (zc_invokevirtual1 xj_40 20 103 35 2 50 1 3 rfl rfl rfl rfl (zc_iload_n xj_40 21 3 rfl rfl zf_ild_3 (zc_iload xj_40 23 4 rfl rfl zf_ild_4 (zc_invokevirtual1 xj_40 26 210 95 4 51 5 5 rfl rfl rfl rfl (zc_ireturn0 xj_40 27 rfl rfl (trivial))))))))))))))))))
noncomputable def xm_40 : Lean.RArray (zE → zKn) := .leaf xf_40_0
theorem xa_40 : zCdAll 40 [0] xm_40 := zAll2_ok (P := fun t => ∃ c, zCd 40 [0] t c ∧ xm_40.get t = zEx c) ⟨⟨_, xc_40_0, xe_40_0⟩, trivial⟩
/-- SquareMesh$Mesh.sideSquare -/
theorem xj_41 : ∀ pc, pI 41 pc = pJ_41 pc := fun _ => rfl
noncomputable def xb_41_0 : List zF := [zq_aldg zG0, zq_getfg 1 zG0, zq_aldg zG0, zq_ildg zG1, zq_ildg zG2, zq_calli 35 2 1 3, zq_aldg zG0, zq_ildg zG1, zq_ildg zG2, zq_k 1, zq_add, zq_k 3, zq_rem, zq_calli 35 2 1 3, zq_calli 97 2 5 5, zq_iret 0]
noncomputable def xf_41_0 : zE → zKn := fun E => zq_aldg zG0 (zq_getfg 1 zG0 (zq_aldg zG0 (zq_ildg zG1 (zq_ildg zG2 (zq_calli 35 2 1 3 (zq_aldg zG0 (zq_ildg zG1 (zq_ildg zG2 (zq_k 1 (zq_add (zq_k 3 (zq_rem (zq_calli 35 2 1 3 (zq_calli 97 2 5 5 (zq_iret 0 (zNil) E) E) E) E) E) E) E) E) E) E) E) E) E) E) E) E
theorem xe_41_0 : xf_41_0 = zEx xb_41_0 := by
  unfold xf_41_0 xb_41_0
  rfl
theorem xc_41_0 : zCd 41 [0] 0 xb_41_0 := zc_aload_n xj_41 1 0 rfl rfl zf_ald_0 (zc_getf xj_41 4 12 1 0 24 rfl rfl (zf_getf_0 _) (zc_aload_n xj_41 5 0 rfl rfl zf_ald_0 (zc_iload_n xj_41 6 1 rfl rfl zf_ild_1 (zc_iload_n xj_41 7 2 rfl rfl zf_ild_2 (zc_invokevirtual1 xj_41 10 103 35 2 50 1 3 rfl rfl rfl rfl (zc_aload_n xj_41 11 0 rfl rfl zf_ald_0 (zc_iload_n xj_41 12 1 rfl rfl zf_ild_1 (zc_iload_n xj_41 13 2 rfl rfl zf_ild_2 (zc_iconst xj_41 14 1 1 rfl rfl rfl (zc_iadd xj_41 15 rfl rfl (zc_iconst xj_41 16 3 3 rfl rfl rfl (zc_irem xj_41 17 rfl rfl (zc_invokevirtual1 xj_41 20 103 35 2 50 1 3 rfl rfl rfl rfl (zc_invokevirtual1 xj_41 23 213 97 2 105 5 5 rfl rfl rfl rfl (zc_ireturn0 xj_41 24 rfl rfl (trivial))))))))))))))))
noncomputable def xm_41 : Lean.RArray (zE → zKn) := .leaf xf_41_0
theorem xa_41 : zCdAll 41 [0] xm_41 := zAll2_ok (P := fun t => ∃ c, zCd 41 [0] t c ∧ xm_41.get t = zEx c) ⟨⟨_, xc_41_0, xe_41_0⟩, trivial⟩
/-- SquareMesh$Mesh.squareOf -/
theorem xj_42 : ∀ pc, pI 42 pc = pJ_42 pc := fun _ => rfl
noncomputable def xb_42_0 : List zF := [zq_aldg zG0, zq_getfg 1 zG0, zq_aldg zG0, zq_getfg 1 zG4, zq_k 2, zq_ildg zG1, zq_mul, zq_ild_ 0, zq_aldg zG0, zq_getfg 1 zG4, zq_k 2, zq_ildg zG1, zq_mul, zq_k 1, zq_add, zq_ild_ 0, zq_calli 97 2 5 5, zq_iret 0]
noncomputable def xf_42_0 : zE → zKn := fun E => zq_aldg zG0 (zq_getfg 1 zG0 (zq_aldg zG0 (zq_getfg 1 zG4 (zq_k 2 (zq_ildg zG1 (zq_mul (zq_ild_ 0 (zq_aldg zG0 (zq_getfg 1 zG4 (zq_k 2 (zq_ildg zG1 (zq_mul (zq_k 1 (zq_add (zq_ild_ 0 (zq_calli 97 2 5 5 (zq_iret 0 (zNil) E) E) E) E) E) E) E) E) E) E) E) E) E) E) E) E) E) E
theorem xe_42_0 : xf_42_0 = zEx xb_42_0 := by
  unfold xf_42_0 xb_42_0
  rfl
theorem xc_42_0 : zCd 42 [0] 0 xb_42_0 := zc_aload_n xj_42 1 0 rfl rfl zf_ald_0 (zc_getf xj_42 4 12 1 0 24 rfl rfl (zf_getf_0 _) (zc_aload_n xj_42 5 0 rfl rfl zf_ald_0 (zc_getf xj_42 8 28 1 4 35 rfl rfl (zf_getf_4 _) (zc_iconst xj_42 9 2 2 rfl rfl rfl (zc_iload_n xj_42 10 1 rfl rfl zf_ild_1 (zc_imul xj_42 11 rfl rfl (zc_iaload xj_42 12 rfl rfl (zc_aload_n xj_42 13 0 rfl rfl zf_ald_0 (zc_getf xj_42 16 28 1 4 35 rfl rfl (zf_getf_4 _) (zc_iconst xj_42 17 2 2 rfl rfl rfl (zc_iload_n xj_42 18 1 rfl rfl zf_ild_1 (zc_imul xj_42 19 rfl rfl (zc_iconst xj_42 20 1 1 rfl rfl rfl (zc_iadd xj_42 21 rfl rfl (zc_iaload xj_42 22 rfl rfl (zc_invokevirtual1 xj_42 25 213 97 2 105 5 5 rfl rfl rfl rfl (zc_ireturn0 xj_42 26 rfl rfl (trivial))))))))))))))))))
noncomputable def xm_42 : Lean.RArray (zE → zKn) := .leaf xf_42_0
theorem xa_42 : zCdAll 42 [0] xm_42 := zAll2_ok (P := fun t => ∃ c, zCd 42 [0] t c ∧ xm_42.get t = zEx c) ⟨⟨_, xc_42_0, xe_42_0⟩, trivial⟩
/-- SquareMesh$Mesh.holds -/
theorem xj_43 : ∀ pc, pI 43 pc = pJ_43 pc := fun _ => rfl
noncomputable def xb_43_2 : List zF := [zq_iret 1]
noncomputable def xf_43_2 : zE → zKn := fun E => zq_iret 1 (zNil) E
theorem xe_43_2 : xf_43_2 = zEx xb_43_2 := by
  unfold xf_43_2 xb_43_2
  rfl
theorem xc_43_2 : zCd 43 [0, 37, 38] 38 xb_43_2 := zc_ireturn1 xj_43 39 rfl rfl (trivial)
noncomputable def xb_43_1 : List zF := zq_k 0 :: xb_43_2
noncomputable def xf_43_1 : zE → zKn := fun E => zq_k 0 (xf_43_2 E) E
theorem xe_43_1 : xf_43_1 = zEx xb_43_1 := by
  unfold xf_43_1 xb_43_1
  rw [xe_43_2]
  rfl
theorem xc_43_1 : zCd 43 [0, 37, 38] 37 xb_43_1 := zc_iconst xj_43 38 0 0 rfl rfl rfl (xc_43_2)
noncomputable def xb_43_0 : List zF := [zq_aldg zG0, zq_ildg zG1, zq_k 0, zq_ildg zG2, zq_ildg zG3, zq_calli 40 4 1 5, zq_if_lt 37, zq_aldg zG0, zq_ildg zG1, zq_k 1, zq_ildg zG2, zq_ildg zG3, zq_calli 40 4 1 5, zq_if_lt 37, zq_aldg zG0, zq_ildg zG1, zq_k 2, zq_ildg zG2, zq_ildg zG3, zq_calli 40 4 1 5, zq_if_lt 37, zq_k 1, zq_goto 38]
noncomputable def xf_43_0 : zE → zKn := fun E => zq_aldg zG0 (zq_ildg zG1 (zq_k 0 (zq_ildg zG2 (zq_ildg zG3 (zq_calli 40 4 1 5 (zq_if_lt 37 (zq_aldg zG0 (zq_ildg zG1 (zq_k 1 (zq_ildg zG2 (zq_ildg zG3 (zq_calli 40 4 1 5 (zq_if_lt 37 (zq_aldg zG0 (zq_ildg zG1 (zq_k 2 (zq_ildg zG2 (zq_ildg zG3 (zq_calli 40 4 1 5 (zq_if_lt 37 (zq_k 1 (zq_goto 38 (zNil) E) E) E) E) E) E) E) E) E) E) E) E) E) E) E) E) E) E) E) E) E) E) E
theorem xe_43_0 : xf_43_0 = zEx xb_43_0 := by
  unfold xf_43_0 xb_43_0
  rfl
theorem xc_43_0 : zCd 43 [0, 37, 38] 0 xb_43_0 := zc_aload_n xj_43 1 0 rfl rfl zf_ald_0 (zc_iload_n xj_43 2 1 rfl rfl zf_ild_1 (zc_iconst xj_43 3 0 0 rfl rfl rfl (zc_iload_n xj_43 4 2 rfl rfl zf_ild_2 (zc_iload_n xj_43 5 3 rfl rfl zf_ild_3 (zc_invokevirtual1 xj_43 8 216 40 4 49 1 5 rfl rfl rfl rfl (zc_if_lt xj_43 11 29 37 rfl rfl rfl (zc_aload_n xj_43 12 0 rfl rfl zf_ald_0 (zc_iload_n xj_43 13 1 rfl rfl zf_ild_1 (zc_iconst xj_43 14 1 1 rfl rfl rfl (zc_iload_n xj_43 15 2 rfl rfl zf_ild_2 (zc_iload_n xj_43 16 3 rfl rfl zf_ild_3 (zc_invokevirtual1 xj_43 19 216 40 4 49 1 5 rfl rfl rfl rfl (zc_if_lt xj_43 22 18 37 rfl rfl rfl (zc_aload_n xj_43 23 0 rfl rfl zf_ald_0 (zc_iload_n xj_43 24 1 rfl rfl zf_ild_1 (zc_iconst xj_43 25 2 2 rfl rfl rfl (zc_iload_n xj_43 26 2 rfl rfl zf_ild_2 (zc_iload_n xj_43 27 3 rfl rfl zf_ild_3 (zc_invokevirtual1 xj_43 30 216 40 4 49 1 5 rfl rfl rfl rfl (zc_if_lt xj_43 33 7 37 rfl rfl rfl (zc_iconst xj_43 34 1 1 rfl rfl rfl (zc_goto xj_43 35 4 38 rfl rfl rfl (trivial)))))))))))))))))))))))
noncomputable def xm_43 : Lean.RArray (zE → zKn) := .branch 37 (.leaf xf_43_0) (.branch 38 (.leaf xf_43_1) (.leaf xf_43_2))
theorem xa_43 : zCdAll 43 [0, 37, 38] xm_43 := zAll2_ok (P := fun t => ∃ c, zCd 43 [0, 37, 38] t c ∧ xm_43.get t = zEx c) ⟨⟨_, xc_43_0, xe_43_0⟩, ⟨_, xc_43_1, xe_43_1⟩, ⟨_, xc_43_2, xe_43_2⟩, trivial⟩
/-- SquareMesh$Mesh.whereIn -/
theorem xj_44 : ∀ pc, pI 44 pc = pJ_44 pc := fun _ => rfl
noncomputable def xb_44_3 : List zF := [zq_k 4294967295, zq_iret 0]
noncomputable def xf_44_3 : zE → zKn := fun E => zq_k 4294967295 (zq_iret 0 (zNil) E) E
theorem xe_44_3 : xf_44_3 = zEx xb_44_3 := by
  unfold xf_44_3 xb_44_3
  rfl
theorem xc_44_3 : zCd 44 [0, 2, 30, 36] 36 xb_44_3 := zc_iconst xj_44 37 (-1) 4294967295 rfl rfl rfl (zc_ireturn0 xj_44 38 rfl rfl (trivial))
noncomputable def xb_44_2 : List zF := [zq_incg zG3 zE3 1, zq_goto 2]
noncomputable def xf_44_2 : zE → zKn := fun E => zq_incg zG3 zE3 1 (zq_goto 2 (zNil) E) E
theorem xe_44_2 : xf_44_2 = zEx xb_44_2 := by
  unfold xf_44_2 xb_44_2
  rfl
theorem xc_44_2 : zCd 44 [0, 2, 30, 36] 30 xb_44_2 := zc_iinc xj_44 33 3 1 1 rfl rfl rfl (zf_inc_3 _) (zc_goto xj_44 34 (-31) 2 rfl rfl rfl (trivial))
noncomputable def xb_44_1 : List zF := [zq_ildg zG3, zq_aldg zG0, zq_getfg 1 zG7, zq_ic_ge 36, zq_ildg zG1, zq_ildg zG2, zq_calls 182 2 2, zq_if_eq 36, zq_aldg zG0, zq_ildg zG3, zq_ildg zG1, zq_ildg zG2, zq_calli 43 3 1 4, zq_if_eq 30, zq_ildg zG3, zq_iret 0]
noncomputable def xf_44_1 : zE → zKn := fun E => zq_ildg zG3 (zq_aldg zG0 (zq_getfg 1 zG7 (zq_ic_ge 36 (zq_ildg zG1 (zq_ildg zG2 (zq_calls 182 2 2 (zq_if_eq 36 (zq_aldg zG0 (zq_ildg zG3 (zq_ildg zG1 (zq_ildg zG2 (zq_calli 43 3 1 4 (zq_if_eq 30 (zq_ildg zG3 (zq_iret 0 (zNil) E) E) E) E) E) E) E) E) E) E) E) E) E) E) E) E
theorem xe_44_1 : xf_44_1 = zEx xb_44_1 := by
  unfold xf_44_1 xb_44_1
  rfl
theorem xc_44_1 : zCd 44 [0, 2, 30, 36] 2 xb_44_1 := zc_iload_n xj_44 3 3 rfl rfl zf_ild_3 (zc_aload_n xj_44 4 0 rfl rfl zf_ald_0 (zc_getf xj_44 7 78 1 7 45 rfl rfl (zf_getf_7 _) (zc_ic_ge xj_44 10 29 36 rfl rfl rfl (zc_iload_n xj_44 11 1 rfl rfl zf_ild_1 (zc_iload_n xj_44 12 2 rfl rfl zf_ild_2 (zc_invokestatic4 xj_44 15 219 182 2 47 0 2 rfl rfl rfl rfl (zc_if_eq xj_44 18 21 36 rfl rfl rfl (zc_aload_n xj_44 19 0 rfl rfl zf_ald_0 (zc_iload_n xj_44 20 3 rfl rfl zf_ild_3 (zc_iload_n xj_44 21 1 rfl rfl zf_ild_1 (zc_iload_n xj_44 22 2 rfl rfl zf_ild_2 (zc_invokevirtual1 xj_44 25 222 43 3 48 1 4 rfl rfl rfl rfl (zc_if_eq xj_44 28 5 30 rfl rfl rfl (zc_iload_n xj_44 29 3 rfl rfl zf_ild_3 (zc_ireturn0 xj_44 30 rfl rfl (trivial))))))))))))))))
noncomputable def xb_44_0 : List zF := zq_k 0 :: zq_istg zE3 :: xb_44_1
noncomputable def xf_44_0 : zE → zKn := fun E => zq_k 0 (zq_istg zE3 (xf_44_1 E) E) E
theorem xe_44_0 : xf_44_0 = zEx xb_44_0 := by
  unfold xf_44_0 xb_44_0
  rw [xe_44_1]
  rfl
theorem xc_44_0 : zCd 44 [0, 2, 30, 36] 0 xb_44_0 := zc_iconst xj_44 1 0 0 rfl rfl rfl (zc_istore_n xj_44 2 3 rfl rfl zf_ist_3 (xc_44_1))
noncomputable def xm_44 : Lean.RArray (zE → zKn) := .branch 30 (.branch 2 (.leaf xf_44_0) (.leaf xf_44_1)) (.branch 36 (.leaf xf_44_2) (.leaf xf_44_3))
theorem xa_44 : zCdAll 44 [0, 2, 30, 36] xm_44 := zAll2_ok (P := fun t => ∃ c, zCd 44 [0, 2, 30, 36] t c ∧ xm_44.get t = zEx c) ⟨⟨_, xc_44_0, xe_44_0⟩, ⟨_, xc_44_1, xe_44_1⟩, ⟨_, xc_44_2, xe_44_2⟩, ⟨_, xc_44_3, xe_44_3⟩, trivial⟩
/-- SquareMesh$Mesh.goRound -/
theorem xj_45 : ∀ pc, pI 45 pc = pJ_45 pc := fun _ => rfl
noncomputable def xb_45_3 : List zF := [zq_ildg zG4, zq_iret 0]
noncomputable def xf_45_3 : zE → zKn := fun E => zq_ildg zG4 (zq_iret 0 (zNil) E) E
theorem xe_45_3 : xf_45_3 = zEx xb_45_3 := by
  unfold xf_45_3 xb_45_3
  rfl
theorem xc_45_3 : zCd 45 [0, 14, 57, 63] 63 xb_45_3 := zc_iload xj_45 65 4 rfl rfl zf_ild_4 (zc_ireturn0 xj_45 66 rfl rfl (trivial))
noncomputable def xb_45_2 : List zF := [zq_incg zG5 zE5 1, zq_goto 14]
noncomputable def xf_45_2 : zE → zKn := fun E => zq_incg zG5 zE5 1 (zq_goto 14 (zNil) E) E
theorem xe_45_2 : xf_45_2 = zEx xb_45_2 := by
  unfold xf_45_2 xb_45_2
  rfl
theorem xc_45_2 : zCd 45 [0, 14, 57, 63] 57 xb_45_2 := zc_iinc xj_45 60 5 1 1 rfl rfl rfl (zf_inc_5 _) (zc_goto xj_45 61 (-46) 14 rfl rfl rfl (trivial))
noncomputable def xb_45_1 : List zF := [zq_ildg zG5, zq_k 40, zq_ic_ge 63, zq_ildg zG3, zq_k 4294967295, zq_ic_eq 63, zq_aldg zG0, zq_getfg 1 zG6, zq_ildg zG4, zq_ildg zG3, zq_iast, zq_incg zG4 zE4 1, zq_aldg zG0, zq_getfg 1 zG1, zq_ildg zG1, zq_k 40, zq_mul, zq_ildg zG3, zq_add, zq_ild_ 0, zq_istg zE3, zq_ildg zG3, zq_ildg zG2, zq_ic_ne 57, zq_goto 63]
noncomputable def xf_45_1 : zE → zKn := fun E => zq_ildg zG5 (zq_k 40 (zq_ic_ge 63 (zq_ildg zG3 (zq_k 4294967295 (zq_ic_eq 63 (zq_aldg zG0 (zq_getfg 1 zG6 (zq_ildg zG4 (zq_ildg zG3 (zq_iast (zq_incg zG4 zE4 1 (zq_aldg zG0 (zq_getfg 1 zG1 (zq_ildg zG1 (zq_k 40 (zq_mul (zq_ildg zG3 (zq_add (zq_ild_ 0 (zq_istg zE3 (zq_ildg zG3 (zq_ildg zG2 (zq_ic_ne 57 (zq_goto 63 (zNil) E) E) E) E) E) E) E) E) E) E) E) E) E) E) E) E) E) E) E) E) E) E) E) E) E
theorem xe_45_1 : xf_45_1 = zEx xb_45_1 := by
  unfold xf_45_1 xb_45_1
  rfl
theorem xc_45_1 : zCd 45 [0, 14, 57, 63] 14 xb_45_1 := zc_iload xj_45 16 5 rfl rfl zf_ild_5 (zc_bipush xj_45 18 40 40 rfl rfl rfl (zc_ic_ge xj_45 21 45 63 rfl rfl rfl (zc_iload_n xj_45 22 3 rfl rfl zf_ild_3 (zc_iconst xj_45 23 (-1) 4294967295 rfl rfl rfl (zc_ic_eq xj_45 26 40 63 rfl rfl rfl (zc_aload_n xj_45 27 0 rfl rfl zf_ald_0 (zc_getf xj_45 30 35 1 6 42 rfl rfl (zf_getf_6 _) (zc_iload xj_45 32 4 rfl rfl zf_ild_4 (zc_iload_n xj_45 33 3 rfl rfl zf_ild_3 (zc_iastore xj_45 34 rfl rfl (zc_iinc xj_45 37 4 1 1 rfl rfl rfl (zf_inc_4 _) (zc_aload_n xj_45 38 0 rfl rfl zf_ald_0 (zc_getf xj_45 41 18 1 1 29 rfl rfl (zf_getf_1 _) (zc_iload_n xj_45 42 1 rfl rfl zf_ild_1 (zc_bipush xj_45 44 40 40 rfl rfl rfl (zc_imul xj_45 45 rfl rfl (zc_iload_n xj_45 46 3 rfl rfl zf_ild_3 (zc_iadd xj_45 47 rfl rfl (zc_iaload xj_45 48 rfl rfl (zc_istore_n xj_45 49 3 rfl rfl zf_ist_3 (zc_iload_n xj_45 50 3 rfl rfl zf_ild_3 (zc_iload_n xj_45 51 2 rfl rfl zf_ild_2 (zc_ic_ne xj_45 54 6 57 rfl rfl rfl (zc_goto xj_45 55 9 63 rfl rfl rfl (trivial)))))))))))))))))))))))))
noncomputable def xb_45_0 : List zF := zq_aldg zG0 :: zq_ildg zG1 :: zq_calli 46 1 1 4 :: zq_istg zE2 :: zq_ildg zG2 :: zq_istg zE3 :: zq_k 0 :: zq_istg zE4 :: zq_k 0 :: zq_istg zE5 :: xb_45_1
noncomputable def xf_45_0 : zE → zKn := fun E => zq_aldg zG0 (zq_ildg zG1 (zq_calli 46 1 1 4 (zq_istg zE2 (zq_ildg zG2 (zq_istg zE3 (zq_k 0 (zq_istg zE4 (zq_k 0 (zq_istg zE5 (xf_45_1 E) E) E) E) E) E) E) E) E) E) E
theorem xe_45_0 : xf_45_0 = zEx xb_45_0 := by
  unfold xf_45_0 xb_45_0
  rw [xe_45_1]
  rfl
theorem xc_45_0 : zCd 45 [0, 14, 57, 63] 0 xb_45_0 := zc_aload_n xj_45 1 0 rfl rfl zf_ald_0 (zc_iload_n xj_45 2 1 rfl rfl zf_ild_1 (zc_invokevirtual1 xj_45 5 226 46 1 70 1 4 rfl rfl rfl rfl (zc_istore_n xj_45 6 2 rfl rfl zf_ist_2 (zc_iload_n xj_45 7 2 rfl rfl zf_ild_2 (zc_istore_n xj_45 8 3 rfl rfl zf_ist_3 (zc_iconst xj_45 9 0 0 rfl rfl rfl (zc_istore xj_45 11 4 rfl rfl zf_ist_4 (zc_iconst xj_45 12 0 0 rfl rfl rfl (zc_istore xj_45 14 5 rfl rfl zf_ist_5 (xc_45_1))))))))))
noncomputable def xm_45 : Lean.RArray (zE → zKn) := .branch 57 (.branch 14 (.leaf xf_45_0) (.leaf xf_45_1)) (.branch 63 (.leaf xf_45_2) (.leaf xf_45_3))
theorem xa_45 : zCdAll 45 [0, 14, 57, 63] xm_45 := zAll2_ok (P := fun t => ∃ c, zCd 45 [0, 14, 57, 63] t c ∧ xm_45.get t = zEx c) ⟨⟨_, xc_45_0, xe_45_0⟩, ⟨_, xc_45_1, xe_45_1⟩, ⟨_, xc_45_2, xe_45_2⟩, ⟨_, xc_45_3, xe_45_3⟩, trivial⟩
/-- SquareMesh$Mesh.firstOfRound -/
theorem xj_46 : ∀ pc, pI 46 pc = pJ_46 pc := fun _ => rfl
noncomputable def xb_46_4 : List zF := [zq_ildg zG2, zq_iret 0]
noncomputable def xf_46_4 : zE → zKn := fun E => zq_ildg zG2 (zq_iret 0 (zNil) E) E
theorem xe_46_4 : xf_46_4 = zEx xb_46_4 := by
  unfold xf_46_4 xb_46_4
  rfl
theorem xc_46_4 : zCd 46 [0, 4, 36, 43, 49] 49 xb_46_4 := zc_iload_n xj_46 50 2 rfl rfl zf_ild_2 (zc_ireturn0 xj_46 51 rfl rfl (trivial))
noncomputable def xb_46_3 : List zF := [zq_incg zG3 zE3 1, zq_goto 4]
noncomputable def xf_46_3 : zE → zKn := fun E => zq_incg zG3 zE3 1 (zq_goto 4 (zNil) E) E
theorem xe_46_3 : xf_46_3 = zEx xb_46_3 := by
  unfold xf_46_3 xb_46_3
  rfl
theorem xc_46_3 : zCd 46 [0, 4, 36, 43, 49] 43 xb_46_3 := zc_iinc xj_46 46 3 1 1 rfl rfl rfl (zf_inc_3 _) (zc_goto xj_46 47 (-42) 4 rfl rfl rfl (trivial))
noncomputable def xb_46_2 : List zF := zq_ildg zG2 :: zq_k 4294967295 :: zq_ic_ne 43 :: zq_ildg zG3 :: zq_istg zE2 :: xb_46_3
noncomputable def xf_46_2 : zE → zKn := fun E => zq_ildg zG2 (zq_k 4294967295 (zq_ic_ne 43 (zq_ildg zG3 (zq_istg zE2 (xf_46_3 E) E) E) E) E) E
theorem xe_46_2 : xf_46_2 = zEx xb_46_2 := by
  unfold xf_46_2 xb_46_2
  rw [xe_46_3]
  rfl
theorem xc_46_2 : zCd 46 [0, 4, 36, 43, 49] 36 xb_46_2 := zc_iload_n xj_46 37 2 rfl rfl zf_ild_2 (zc_iconst xj_46 38 (-1) 4294967295 rfl rfl rfl (zc_ic_ne xj_46 41 5 43 rfl rfl rfl (zc_iload_n xj_46 42 3 rfl rfl zf_ild_3 (zc_istore_n xj_46 43 2 rfl rfl zf_ist_2 (xc_46_3)))))
noncomputable def xb_46_1 : List zF := [zq_ildg zG3, zq_k 40, zq_ic_ge 49, zq_aldg zG0, zq_ildg zG1, zq_ildg zG3, zq_calli 36 2 1 3, zq_if_eq 43, zq_aldg zG0, zq_getfg 1 zG1, zq_ildg zG3, zq_k 40, zq_mul, zq_ildg zG1, zq_add, zq_ild_ 0, zq_k 4294967295, zq_ic_ne 36, zq_ildg zG3, zq_iret 0]
noncomputable def xf_46_1 : zE → zKn := fun E => zq_ildg zG3 (zq_k 40 (zq_ic_ge 49 (zq_aldg zG0 (zq_ildg zG1 (zq_ildg zG3 (zq_calli 36 2 1 3 (zq_if_eq 43 (zq_aldg zG0 (zq_getfg 1 zG1 (zq_ildg zG3 (zq_k 40 (zq_mul (zq_ildg zG1 (zq_add (zq_ild_ 0 (zq_k 4294967295 (zq_ic_ne 36 (zq_ildg zG3 (zq_iret 0 (zNil) E) E) E) E) E) E) E) E) E) E) E) E) E) E) E) E) E) E) E) E
theorem xe_46_1 : xf_46_1 = zEx xb_46_1 := by
  unfold xf_46_1 xb_46_1
  rfl
theorem xc_46_1 : zCd 46 [0, 4, 36, 43, 49] 4 xb_46_1 := zc_iload_n xj_46 5 3 rfl rfl zf_ild_3 (zc_bipush xj_46 7 40 40 rfl rfl rfl (zc_ic_ge xj_46 10 42 49 rfl rfl rfl (zc_aload_n xj_46 11 0 rfl rfl zf_ald_0 (zc_iload_n xj_46 12 1 rfl rfl zf_ild_1 (zc_iload_n xj_46 13 3 rfl rfl zf_ild_3 (zc_invokevirtual1 xj_46 16 149 36 2 71 1 3 rfl rfl rfl rfl (zc_if_eq xj_46 19 27 43 rfl rfl rfl (zc_aload_n xj_46 20 0 rfl rfl zf_ald_0 (zc_getf xj_46 23 18 1 1 29 rfl rfl (zf_getf_1 _) (zc_iload_n xj_46 24 3 rfl rfl zf_ild_3 (zc_bipush xj_46 26 40 40 rfl rfl rfl (zc_imul xj_46 27 rfl rfl (zc_iload_n xj_46 28 1 rfl rfl zf_ild_1 (zc_iadd xj_46 29 rfl rfl (zc_iaload xj_46 30 rfl rfl (zc_iconst xj_46 31 (-1) 4294967295 rfl rfl rfl (zc_ic_ne xj_46 34 5 36 rfl rfl rfl (zc_iload_n xj_46 35 3 rfl rfl zf_ild_3 (zc_ireturn0 xj_46 36 rfl rfl (trivial))))))))))))))))))))
noncomputable def xb_46_0 : List zF := zq_k 4294967295 :: zq_istg zE2 :: zq_k 0 :: zq_istg zE3 :: xb_46_1
noncomputable def xf_46_0 : zE → zKn := fun E => zq_k 4294967295 (zq_istg zE2 (zq_k 0 (zq_istg zE3 (xf_46_1 E) E) E) E) E
theorem xe_46_0 : xf_46_0 = zEx xb_46_0 := by
  unfold xf_46_0 xb_46_0
  rw [xe_46_1]
  rfl
theorem xc_46_0 : zCd 46 [0, 4, 36, 43, 49] 0 xb_46_0 := zc_iconst xj_46 1 (-1) 4294967295 rfl rfl rfl (zc_istore_n xj_46 2 2 rfl rfl zf_ist_2 (zc_iconst xj_46 3 0 0 rfl rfl rfl (zc_istore_n xj_46 4 3 rfl rfl zf_ist_3 (xc_46_1))))
noncomputable def xm_46 : Lean.RArray (zE → zKn) := .branch 36 (.branch 4 (.leaf xf_46_0) (.leaf xf_46_1)) (.branch 43 (.leaf xf_46_2) (.branch 49 (.leaf xf_46_3) (.leaf xf_46_4)))
theorem xa_46 : zCdAll 46 [0, 4, 36, 43, 49] xm_46 := zAll2_ok (P := fun t => ∃ c, zCd 46 [0, 4, 36, 43, 49] t c ∧ xm_46.get t = zEx c) ⟨⟨_, xc_46_0, xe_46_0⟩, ⟨_, xc_46_1, xe_46_1⟩, ⟨_, xc_46_2, xe_46_2⟩, ⟨_, xc_46_3, xe_46_3⟩, ⟨_, xc_46_4, xe_46_4⟩, trivial⟩
/-- SquareMesh$Mesh.isInSight -/
theorem xj_47 : ∀ pc, pI 47 pc = pJ_47 pc := fun _ => rfl
noncomputable def xb_47_8 : List zF := [zq_k 1, zq_iret 1]
noncomputable def xf_47_8 : zE → zKn := fun E => zq_k 1 (zq_iret 1 (zNil) E) E
theorem xe_47_8 : xf_47_8 = zEx xb_47_8 := by
  unfold xf_47_8 xb_47_8
  rfl
theorem xc_47_8 : zCd 47 [0, 27, 29, 31, 63, 69, 71, 133, 139] 139 xb_47_8 := zc_iconst xj_47 140 1 1 rfl rfl rfl (zc_ireturn1 xj_47 141 rfl rfl (trivial))
noncomputable def xb_47_7 : List zF := [zq_incg zG3 zE3 1, zq_goto 71]
noncomputable def xf_47_7 : zE → zKn := fun E => zq_incg zG3 zE3 1 (zq_goto 71 (zNil) E) E
theorem xe_47_7 : xf_47_7 = zEx xb_47_7 := by
  unfold xf_47_7 xb_47_7
  rfl
theorem xc_47_7 : zCd 47 [0, 27, 29, 31, 63, 69, 71, 133, 139] 133 xb_47_7 := zc_iinc xj_47 136 3 1 1 rfl rfl rfl (zf_inc_3 _) (zc_goto xj_47 137 (-65) 71 rfl rfl rfl (trivial))
noncomputable def xb_47_6 : List zF := [zq_ildg zG3, zq_aldg zG0, zq_getfg 1 zG8, zq_ic_ge 139, zq_aldg zG0, zq_getfg 1 zG4, zq_k 2, zq_ildg zG3, zq_mul, zq_ild_ 0, zq_istg zE4, zq_aldg zG0, zq_getfg 1 zG4, zq_k 2, zq_ildg zG3, zq_mul, zq_k 1, zq_add, zq_ild_ 0, zq_istg zE5, zq_aldg zG0, zq_getfg 1 zG0, zq_ildg zG4, zq_ildg zG5, zq_calli 91 2 5 3, zq_if_eq 133, zq_aldg zG0, zq_getfg 1 zG0, zq_ildg zG4, zq_ildg zG5, zq_ildg zG1, zq_ildg zG2, zq_calli 101 4 5 5, zq_if_eq 133, zq_k 0, zq_iret 1]
noncomputable def xf_47_6 : zE → zKn := fun E => zq_ildg zG3 (zq_aldg zG0 (zq_getfg 1 zG8 (zq_ic_ge 139 (zq_aldg zG0 (zq_getfg 1 zG4 (zq_k 2 (zq_ildg zG3 (zq_mul (zq_ild_ 0 (zq_istg zE4 (zq_aldg zG0 (zq_getfg 1 zG4 (zq_k 2 (zq_ildg zG3 (zq_mul (zq_k 1 (zq_add (zq_ild_ 0 (zq_istg zE5 (zq_aldg zG0 (zq_getfg 1 zG0 (zq_ildg zG4 (zq_ildg zG5 (zq_calli 91 2 5 3 (zq_if_eq 133 (zq_aldg zG0 (zq_getfg 1 zG0 (zq_ildg zG4 (zq_ildg zG5 (zq_ildg zG1 (zq_ildg zG2 (zq_calli 101 4 5 5 (zq_if_eq 133 (zq_k 0 (zq_iret 1 (zNil) E) E) E) E) E) E) E) E) E) E) E) E) E) E) E) E) E) E) E) E) E) E) E) E) E) E) E) E) E) E) E) E) E) E) E) E
set_option maxRecDepth 100000 in
theorem xe_47_6 : xf_47_6 = zEx xb_47_6 := by
  unfold xf_47_6 xb_47_6
  rfl
theorem xc_47_6 : zCd 47 [0, 27, 29, 31, 63, 69, 71, 133, 139] 71 xb_47_6 := zc_iload_n xj_47 72 3 rfl rfl zf_ild_3 (zc_aload_n xj_47 73 0 rfl rfl zf_ald_0 (zc_getf xj_47 76 155 1 8 50 rfl rfl (zf_getf_8 _) (zc_ic_ge xj_47 79 63 139 rfl rfl rfl (zc_aload_n xj_47 80 0 rfl rfl zf_ald_0 (zc_getf xj_47 83 28 1 4 35 rfl rfl (zf_getf_4 _) (zc_iconst xj_47 84 2 2 rfl rfl rfl (zc_iload_n xj_47 85 3 rfl rfl zf_ild_3 (zc_imul xj_47 86 rfl rfl (zc_iaload xj_47 87 rfl rfl (zc_istore xj_47 89 4 rfl rfl zf_ist_4 (zc_aload_n xj_47 90 0 rfl rfl zf_ald_0 (zc_getf xj_47 93 28 1 4 35 rfl rfl (zf_getf_4 _) (zc_iconst xj_47 94 2 2 rfl rfl rfl (zc_iload_n xj_47 95 3 rfl rfl zf_ild_3 (zc_imul xj_47 96 rfl rfl (zc_iconst xj_47 97 1 1 rfl rfl rfl (zc_iadd xj_47 98 rfl rfl (zc_iaload xj_47 99 rfl rfl (zc_istore xj_47 101 5 rfl rfl zf_ist_5 (zc_aload_n xj_47 102 0 rfl rfl zf_ald_0 (zc_getf xj_47 105 12 1 0 24 rfl rfl (zf_getf_0 _) (zc_iload xj_47 107 4 rfl rfl zf_ild_4 (zc_iload xj_47 109 5 rfl rfl zf_ild_5 (zc_invokevirtual1 xj_47 112 122 91 2 58 5 3 rfl rfl rfl rfl (zc_if_eq xj_47 115 21 133 rfl rfl rfl (zc_aload_n xj_47 116 0 rfl rfl zf_ald_0 (zc_getf xj_47 119 12 1 0 24 rfl rfl (zf_getf_0 _) (zc_iload xj_47 121 4 rfl rfl zf_ild_4 (zc_iload xj_47 123 5 rfl rfl zf_ild_5 (zc_iload_n xj_47 124 1 rfl rfl zf_ild_1 (zc_iload_n xj_47 125 2 rfl rfl zf_ild_2 (zc_invokevirtual1 xj_47 128 158 101 4 84 5 5 rfl rfl rfl rfl (zc_if_eq xj_47 131 5 133 rfl rfl rfl (zc_iconst xj_47 132 0 0 rfl rfl rfl (zc_ireturn1 xj_47 133 rfl rfl (trivial))))))))))))))))))))))))))))))))))))
noncomputable def xb_47_5 : List zF := zq_k 0 :: zq_istg zE3 :: xb_47_6
noncomputable def xf_47_5 : zE → zKn := fun E => zq_k 0 (zq_istg zE3 (xf_47_6 E) E) E
theorem xe_47_5 : xf_47_5 = zEx xb_47_5 := by
  unfold xf_47_5 xb_47_5
  rw [xe_47_6]
  rfl
theorem xc_47_5 : zCd 47 [0, 27, 29, 31, 63, 69, 71, 133, 139] 69 xb_47_5 := zc_iconst xj_47 70 0 0 rfl rfl rfl (zc_istore_n xj_47 71 3 rfl rfl zf_ist_3 (xc_47_6))
noncomputable def xb_47_4 : List zF := [zq_incg zG3 zE3 1, zq_goto 31]
noncomputable def xf_47_4 : zE → zKn := fun E => zq_incg zG3 zE3 1 (zq_goto 31 (zNil) E) E
theorem xe_47_4 : xf_47_4 = zEx xb_47_4 := by
  unfold xf_47_4 xb_47_4
  rfl
theorem xc_47_4 : zCd 47 [0, 27, 29, 31, 63, 69, 71, 133, 139] 63 xb_47_4 := zc_iinc xj_47 66 3 1 1 rfl rfl rfl (zf_inc_3 _) (zc_goto xj_47 67 (-35) 31 rfl rfl rfl (trivial))
noncomputable def xb_47_3 : List zF := [zq_ildg zG3, zq_k 40, zq_ic_ge 69, zq_aldg zG0, zq_getfg 1 zG0, zq_ildg zG3, zq_calli 82 1 5 2, zq_if_eq 63, zq_aldg zG0, zq_getfg 1 zG0, zq_ildg zG1, zq_ildg zG2, zq_ildg zG3, zq_calli 99 3 5 5, zq_if_eq 63, zq_k 0, zq_iret 1]
noncomputable def xf_47_3 : zE → zKn := fun E => zq_ildg zG3 (zq_k 40 (zq_ic_ge 69 (zq_aldg zG0 (zq_getfg 1 zG0 (zq_ildg zG3 (zq_calli 82 1 5 2 (zq_if_eq 63 (zq_aldg zG0 (zq_getfg 1 zG0 (zq_ildg zG1 (zq_ildg zG2 (zq_ildg zG3 (zq_calli 99 3 5 5 (zq_if_eq 63 (zq_k 0 (zq_iret 1 (zNil) E) E) E) E) E) E) E) E) E) E) E) E) E) E) E) E) E
theorem xe_47_3 : xf_47_3 = zEx xb_47_3 := by
  unfold xf_47_3 xb_47_3
  rfl
theorem xc_47_3 : zCd 47 [0, 27, 29, 31, 63, 69, 71, 133, 139] 31 xb_47_3 := zc_iload_n xj_47 32 3 rfl rfl zf_ild_3 (zc_bipush xj_47 34 40 40 rfl rfl rfl (zc_ic_ge xj_47 37 35 69 rfl rfl rfl (zc_aload_n xj_47 38 0 rfl rfl zf_ald_0 (zc_getf xj_47 41 12 1 0 24 rfl rfl (zf_getf_0 _) (zc_iload_n xj_47 42 3 rfl rfl zf_ild_3 (zc_invokevirtual1 xj_47 45 175 82 1 26 5 2 rfl rfl rfl rfl (zc_if_eq xj_47 48 18 63 rfl rfl rfl (zc_aload_n xj_47 49 0 rfl rfl zf_ald_0 (zc_getf xj_47 52 12 1 0 24 rfl rfl (zf_getf_0 _) (zc_iload_n xj_47 53 1 rfl rfl zf_ild_1 (zc_iload_n xj_47 54 2 rfl rfl zf_ild_2 (zc_iload_n xj_47 55 3 rfl rfl zf_ild_3 (zc_invokevirtual1 xj_47 58 229 99 3 82 5 5 rfl rfl rfl rfl (zc_if_eq xj_47 61 5 63 rfl rfl rfl (zc_iconst xj_47 62 0 0 rfl rfl rfl (zc_ireturn1 xj_47 63 rfl rfl (trivial)))))))))))))))))
noncomputable def xb_47_2 : List zF := zq_k 0 :: zq_istg zE3 :: xb_47_3
noncomputable def xf_47_2 : zE → zKn := fun E => zq_k 0 (zq_istg zE3 (xf_47_3 E) E) E
theorem xe_47_2 : xf_47_2 = zEx xb_47_2 := by
  unfold xf_47_2 xb_47_2
  rw [xe_47_3]
  rfl
theorem xc_47_2 : zCd 47 [0, 27, 29, 31, 63, 69, 71, 133, 139] 29 xb_47_2 := zc_iconst xj_47 30 0 0 rfl rfl rfl (zc_istore_n xj_47 31 3 rfl rfl zf_ist_3 (xc_47_3))
noncomputable def xb_47_1 : List zF := [zq_k 0, zq_iret 1]
noncomputable def xf_47_1 : zE → zKn := fun E => zq_k 0 (zq_iret 1 (zNil) E) E
theorem xe_47_1 : xf_47_1 = zEx xb_47_1 := by
  unfold xf_47_1 xb_47_1
  rfl
theorem xc_47_1 : zCd 47 [0, 27, 29, 31, 63, 69, 71, 133, 139] 27 xb_47_1 := zc_iconst xj_47 28 0 0 rfl rfl rfl (zc_ireturn1 xj_47 29 rfl rfl (trivial))
noncomputable def xb_47_0 : List zF := zq_aldg zG0 :: zq_getfg 1 zG0 :: zq_ildg zG1 :: zq_calli 82 1 5 2 :: zq_if_eq 27 :: zq_aldg zG0 :: zq_getfg 1 zG0 :: zq_ildg zG2 :: zq_calli 82 1 5 2 :: zq_if_eq 27 :: zq_ildg zG1 :: zq_ildg zG2 :: zq_ic_ne 29 :: xb_47_1
noncomputable def xf_47_0 : zE → zKn := fun E => zq_aldg zG0 (zq_getfg 1 zG0 (zq_ildg zG1 (zq_calli 82 1 5 2 (zq_if_eq 27 (zq_aldg zG0 (zq_getfg 1 zG0 (zq_ildg zG2 (zq_calli 82 1 5 2 (zq_if_eq 27 (zq_ildg zG1 (zq_ildg zG2 (zq_ic_ne 29 (xf_47_1 E) E) E) E) E) E) E) E) E) E) E) E) E) E
theorem xe_47_0 : xf_47_0 = zEx xb_47_0 := by
  unfold xf_47_0 xb_47_0
  rw [xe_47_1]
  rfl
theorem xc_47_0 : zCd 47 [0, 27, 29, 31, 63, 69, 71, 133, 139] 0 xb_47_0 := zc_aload_n xj_47 1 0 rfl rfl zf_ald_0 (zc_getf xj_47 4 12 1 0 24 rfl rfl (zf_getf_0 _) (zc_iload_n xj_47 5 1 rfl rfl zf_ild_1 (zc_invokevirtual1 xj_47 8 175 82 1 26 5 2 rfl rfl rfl rfl (zc_if_eq xj_47 11 19 27 rfl rfl rfl (zc_aload_n xj_47 12 0 rfl rfl zf_ald_0 (zc_getf xj_47 15 12 1 0 24 rfl rfl (zf_getf_0 _) (zc_iload_n xj_47 16 2 rfl rfl zf_ild_2 (zc_invokevirtual1 xj_47 19 175 82 1 26 5 2 rfl rfl rfl rfl (zc_if_eq xj_47 22 8 27 rfl rfl rfl (zc_iload_n xj_47 23 1 rfl rfl zf_ild_1 (zc_iload_n xj_47 24 2 rfl rfl zf_ild_2 (zc_ic_ne xj_47 27 5 29 rfl rfl rfl (xc_47_1)))))))))))))
noncomputable def xm_47 : Lean.RArray (zE → zKn) := .branch 63 (.branch 29 (.branch 27 (.leaf xf_47_0) (.leaf xf_47_1)) (.branch 31 (.leaf xf_47_2) (.leaf xf_47_3))) (.branch 71 (.branch 69 (.leaf xf_47_4) (.leaf xf_47_5)) (.branch 133 (.leaf xf_47_6) (.branch 139 (.leaf xf_47_7) (.leaf xf_47_8))))
theorem xa_47 : zCdAll 47 [0, 27, 29, 31, 63, 69, 71, 133, 139] xm_47 := zAll2_ok (P := fun t => ∃ c, zCd 47 [0, 27, 29, 31, 63, 69, 71, 133, 139] t c ∧ xm_47.get t = zEx c) ⟨⟨_, xc_47_0, xe_47_0⟩, ⟨_, xc_47_1, xe_47_1⟩, ⟨_, xc_47_2, xe_47_2⟩, ⟨_, xc_47_3, xe_47_3⟩, ⟨_, xc_47_4, xe_47_4⟩, ⟨_, xc_47_5, xe_47_5⟩, ⟨_, xc_47_6, xe_47_6⟩, ⟨_, xc_47_7, xe_47_7⟩, ⟨_, xc_47_8, xe_47_8⟩, trivial⟩
/-- SquareMesh$Mesh.countCut -/
theorem xj_48 : ∀ pc, pI 48 pc = pJ_48 pc := fun _ => rfl
noncomputable def xb_48_3 : List zF := [zq_ildg zG5, zq_iret 0]
noncomputable def xf_48_3 : zE → zKn := fun E => zq_ildg zG5 (zq_iret 0 (zNil) E) E
theorem xe_48_3 : xf_48_3 = zEx xb_48_3 := by
  unfold xf_48_3 xb_48_3
  rfl
theorem xc_48_3 : zCd 48 [0, 6, 53, 59] 59 xb_48_3 := zc_iload xj_48 61 5 rfl rfl zf_ild_5 (zc_ireturn0 xj_48 62 rfl rfl (trivial))
noncomputable def xb_48_2 : List zF := [zq_incg zG6 zE6 1, zq_goto 6]
noncomputable def xf_48_2 : zE → zKn := fun E => zq_incg zG6 zE6 1 (zq_goto 6 (zNil) E) E
theorem xe_48_2 : xf_48_2 = zEx xb_48_2 := by
  unfold xf_48_2 xb_48_2
  rfl
theorem xc_48_2 : zCd 48 [0, 6, 53, 59] 53 xb_48_2 := zc_iinc xj_48 56 6 1 1 rfl rfl rfl (zf_inc_6 _) (zc_goto xj_48 57 (-50) 6 rfl rfl rfl (trivial))
noncomputable def xb_48_1 : List zF := zq_ildg zG6 :: zq_aldg zG0 :: zq_getfg 1 zG8 :: zq_ic_ge 59 :: zq_aldg zG0 :: zq_getfg 1 zG0 :: zq_aldg zG0 :: zq_getfg 1 zG4 :: zq_k 2 :: zq_ildg zG6 :: zq_mul :: zq_ild_ 0 :: zq_aldg zG0 :: zq_getfg 1 zG4 :: zq_k 2 :: zq_ildg zG6 :: zq_mul :: zq_k 1 :: zq_add :: zq_ild_ 0 :: zq_ildg zG1 :: zq_ildg zG2 :: zq_ildg zG3 :: zq_ildg zG4 :: zq_calli 100 6 5 7 :: zq_if_eq 53 :: zq_incg zG5 zE5 1 :: xb_48_2
noncomputable def xf_48_1 : zE → zKn := fun E => zq_ildg zG6 (zq_aldg zG0 (zq_getfg 1 zG8 (zq_ic_ge 59 (zq_aldg zG0 (zq_getfg 1 zG0 (zq_aldg zG0 (zq_getfg 1 zG4 (zq_k 2 (zq_ildg zG6 (zq_mul (zq_ild_ 0 (zq_aldg zG0 (zq_getfg 1 zG4 (zq_k 2 (zq_ildg zG6 (zq_mul (zq_k 1 (zq_add (zq_ild_ 0 (zq_ildg zG1 (zq_ildg zG2 (zq_ildg zG3 (zq_ildg zG4 (zq_calli 100 6 5 7 (zq_if_eq 53 (zq_incg zG5 zE5 1 (xf_48_2 E) E) E) E) E) E) E) E) E) E) E) E) E) E) E) E) E) E) E) E) E) E) E) E) E) E) E) E
theorem xe_48_1 : xf_48_1 = zEx xb_48_1 := by
  unfold xf_48_1 xb_48_1
  rw [xe_48_2]
  rfl
theorem xc_48_1 : zCd 48 [0, 6, 53, 59] 6 xb_48_1 := zc_iload xj_48 8 6 rfl rfl zf_ild_6 (zc_aload_n xj_48 9 0 rfl rfl zf_ald_0 (zc_getf xj_48 12 155 1 8 50 rfl rfl (zf_getf_8 _) (zc_ic_ge xj_48 15 47 59 rfl rfl rfl (zc_aload_n xj_48 16 0 rfl rfl zf_ald_0 (zc_getf xj_48 19 12 1 0 24 rfl rfl (zf_getf_0 _) (zc_aload_n xj_48 20 0 rfl rfl zf_ald_0 (zc_getf xj_48 23 28 1 4 35 rfl rfl (zf_getf_4 _) (zc_iconst xj_48 24 2 2 rfl rfl rfl (zc_iload xj_48 26 6 rfl rfl zf_ild_6 (zc_imul xj_48 27 rfl rfl (zc_iaload xj_48 28 rfl rfl (zc_aload_n xj_48 29 0 rfl rfl zf_ald_0 (zc_getf xj_48 32 28 1 4 35 rfl rfl (zf_getf_4 _) (zc_iconst xj_48 33 2 2 rfl rfl rfl (zc_iload xj_48 35 6 rfl rfl zf_ild_6 (zc_imul xj_48 36 rfl rfl (zc_iconst xj_48 37 1 1 rfl rfl rfl (zc_iadd xj_48 38 rfl rfl (zc_iaload xj_48 39 rfl rfl (zc_iload_n xj_48 40 1 rfl rfl zf_ild_1 (zc_iload_n xj_48 41 2 rfl rfl zf_ild_2 (zc_iload_n xj_48 42 3 rfl rfl zf_ild_3 (zc_iload xj_48 44 4 rfl rfl zf_ild_4 (zc_invokevirtual1 xj_48 47 232 100 6 180 5 7 rfl rfl rfl rfl (zc_if_eq xj_48 50 6 53 rfl rfl rfl (zc_iinc xj_48 53 5 1 1 rfl rfl rfl (zf_inc_5 _) (xc_48_2)))))))))))))))))))))))))))
noncomputable def xb_48_0 : List zF := zq_k 0 :: zq_istg zE5 :: zq_k 0 :: zq_istg zE6 :: xb_48_1
noncomputable def xf_48_0 : zE → zKn := fun E => zq_k 0 (zq_istg zE5 (zq_k 0 (zq_istg zE6 (xf_48_1 E) E) E) E) E
theorem xe_48_0 : xf_48_0 = zEx xb_48_0 := by
  unfold xf_48_0 xb_48_0
  rw [xe_48_1]
  rfl
theorem xc_48_0 : zCd 48 [0, 6, 53, 59] 0 xb_48_0 := zc_iconst xj_48 1 0 0 rfl rfl rfl (zc_istore xj_48 3 5 rfl rfl zf_ist_5 (zc_iconst xj_48 4 0 0 rfl rfl rfl (zc_istore xj_48 6 6 rfl rfl zf_ist_6 (xc_48_1))))
noncomputable def xm_48 : Lean.RArray (zE → zKn) := .branch 53 (.branch 6 (.leaf xf_48_0) (.leaf xf_48_1)) (.branch 59 (.leaf xf_48_2) (.leaf xf_48_3))
theorem xa_48 : zCdAll 48 [0, 6, 53, 59] xm_48 := zAll2_ok (P := fun t => ∃ c, zCd 48 [0, 6, 53, 59] t c ∧ xm_48.get t = zEx c) ⟨⟨_, xc_48_0, xe_48_0⟩, ⟨_, xc_48_1, xe_48_1⟩, ⟨_, xc_48_2, xe_48_2⟩, ⟨_, xc_48_3, xe_48_3⟩, trivial⟩
/-- SquareMesh$Mesh.countFixed -/
theorem xj_49 : ∀ pc, pI 49 pc = pJ_49 pc := fun _ => rfl
noncomputable def xb_49_3 : List zF := [zq_ildg zG1, zq_iret 0]
noncomputable def xf_49_3 : zE → zKn := fun E => zq_ildg zG1 (zq_iret 0 (zNil) E) E
theorem xe_49_3 : xf_49_3 = zEx xb_49_3 := by
  unfold xf_49_3 xb_49_3
  rfl
theorem xc_49_3 : zCd 49 [0, 4, 43, 49] 49 xb_49_3 := zc_iload_n xj_49 50 1 rfl rfl zf_ild_1 (zc_ireturn0 xj_49 51 rfl rfl (trivial))
noncomputable def xb_49_2 : List zF := [zq_incg zG2 zE2 1, zq_goto 4]
noncomputable def xf_49_2 : zE → zKn := fun E => zq_incg zG2 zE2 1 (zq_goto 4 (zNil) E) E
theorem xe_49_2 : xf_49_2 = zEx xb_49_2 := by
  unfold xf_49_2 xb_49_2
  rfl
theorem xc_49_2 : zCd 49 [0, 4, 43, 49] 43 xb_49_2 := zc_iinc xj_49 46 2 1 1 rfl rfl rfl (zf_inc_2 _) (zc_goto xj_49 47 (-42) 4 rfl rfl rfl (trivial))
noncomputable def xb_49_1 : List zF := zq_ildg zG2 :: zq_aldg zG0 :: zq_getfg 1 zG8 :: zq_ic_ge 49 :: zq_aldg zG0 :: zq_getfg 1 zG0 :: zq_aldg zG0 :: zq_getfg 1 zG4 :: zq_k 2 :: zq_ildg zG2 :: zq_mul :: zq_ild_ 0 :: zq_aldg zG0 :: zq_getfg 1 zG4 :: zq_k 2 :: zq_ildg zG2 :: zq_mul :: zq_k 1 :: zq_add :: zq_ild_ 0 :: zq_calli 91 2 5 3 :: zq_if_eq 43 :: zq_incg zG1 zE1 1 :: xb_49_2
noncomputable def xf_49_1 : zE → zKn := fun E => zq_ildg zG2 (zq_aldg zG0 (zq_getfg 1 zG8 (zq_ic_ge 49 (zq_aldg zG0 (zq_getfg 1 zG0 (zq_aldg zG0 (zq_getfg 1 zG4 (zq_k 2 (zq_ildg zG2 (zq_mul (zq_ild_ 0 (zq_aldg zG0 (zq_getfg 1 zG4 (zq_k 2 (zq_ildg zG2 (zq_mul (zq_k 1 (zq_add (zq_ild_ 0 (zq_calli 91 2 5 3 (zq_if_eq 43 (zq_incg zG1 zE1 1 (xf_49_2 E) E) E) E) E) E) E) E) E) E) E) E) E) E) E) E) E) E) E) E) E) E) E) E
theorem xe_49_1 : xf_49_1 = zEx xb_49_1 := by
  unfold xf_49_1 xb_49_1
  rw [xe_49_2]
  rfl
theorem xc_49_1 : zCd 49 [0, 4, 43, 49] 4 xb_49_1 := zc_iload_n xj_49 5 2 rfl rfl zf_ild_2 (zc_aload_n xj_49 6 0 rfl rfl zf_ald_0 (zc_getf xj_49 9 155 1 8 50 rfl rfl (zf_getf_8 _) (zc_ic_ge xj_49 12 40 49 rfl rfl rfl (zc_aload_n xj_49 13 0 rfl rfl zf_ald_0 (zc_getf xj_49 16 12 1 0 24 rfl rfl (zf_getf_0 _) (zc_aload_n xj_49 17 0 rfl rfl zf_ald_0 (zc_getf xj_49 20 28 1 4 35 rfl rfl (zf_getf_4 _) (zc_iconst xj_49 21 2 2 rfl rfl rfl (zc_iload_n xj_49 22 2 rfl rfl zf_ild_2 (zc_imul xj_49 23 rfl rfl (zc_iaload xj_49 24 rfl rfl (zc_aload_n xj_49 25 0 rfl rfl zf_ald_0 (zc_getf xj_49 28 28 1 4 35 rfl rfl (zf_getf_4 _) (zc_iconst xj_49 29 2 2 rfl rfl rfl (zc_iload_n xj_49 30 2 rfl rfl zf_ild_2 (zc_imul xj_49 31 rfl rfl (zc_iconst xj_49 32 1 1 rfl rfl rfl (zc_iadd xj_49 33 rfl rfl (zc_iaload xj_49 34 rfl rfl (zc_invokevirtual1 xj_49 37 122 91 2 58 5 3 rfl rfl rfl rfl (zc_if_eq xj_49 40 6 43 rfl rfl rfl (zc_iinc xj_49 43 1 1 1 rfl rfl rfl (zf_inc_1 _) (xc_49_2)))))))))))))))))))))))
noncomputable def xb_49_0 : List zF := zq_k 0 :: zq_istg zE1 :: zq_k 0 :: zq_istg zE2 :: xb_49_1
noncomputable def xf_49_0 : zE → zKn := fun E => zq_k 0 (zq_istg zE1 (zq_k 0 (zq_istg zE2 (xf_49_1 E) E) E) E) E
theorem xe_49_0 : xf_49_0 = zEx xb_49_0 := by
  unfold xf_49_0 xb_49_0
  rw [xe_49_1]
  rfl
theorem xc_49_0 : zCd 49 [0, 4, 43, 49] 0 xb_49_0 := zc_iconst xj_49 1 0 0 rfl rfl rfl (zc_istore_n xj_49 2 1 rfl rfl zf_ist_1 (zc_iconst xj_49 3 0 0 rfl rfl rfl (zc_istore_n xj_49 4 2 rfl rfl zf_ist_2 (xc_49_1))))
noncomputable def xm_49 : Lean.RArray (zE → zKn) := .branch 43 (.branch 4 (.leaf xf_49_0) (.leaf xf_49_1)) (.branch 49 (.leaf xf_49_2) (.leaf xf_49_3))
theorem xa_49 : zCdAll 49 [0, 4, 43, 49] xm_49 := zAll2_ok (P := fun t => ∃ c, zCd 49 [0, 4, 43, 49] t c ∧ xm_49.get t = zEx c) ⟨⟨_, xc_49_0, xe_49_0⟩, ⟨_, xc_49_1, xe_49_1⟩, ⟨_, xc_49_2, xe_49_2⟩, ⟨_, xc_49_3, xe_49_3⟩, trivial⟩
/-- SquareMesh$Mesh.countBorder -/
theorem xj_50 : ∀ pc, pI 50 pc = pJ_50 pc := fun _ => rfl
noncomputable def xb_50_3 : List zF := [zq_ildg zG1, zq_iret 0]
noncomputable def xf_50_3 : zE → zKn := fun E => zq_ildg zG1 (zq_iret 0 (zNil) E) E
theorem xe_50_3 : xf_50_3 = zEx xb_50_3 := by
  unfold xf_50_3 xb_50_3
  rfl
theorem xc_50_3 : zCd 50 [0, 4, 40, 46] 46 xb_50_3 := zc_iload_n xj_50 47 1 rfl rfl zf_ild_1 (zc_ireturn0 xj_50 48 rfl rfl (trivial))
noncomputable def xb_50_2 : List zF := [zq_incg zG2 zE2 1, zq_goto 4]
noncomputable def xf_50_2 : zE → zKn := fun E => zq_incg zG2 zE2 1 (zq_goto 4 (zNil) E) E
theorem xe_50_2 : xf_50_2 = zEx xb_50_2 := by
  unfold xf_50_2 xb_50_2
  rfl
theorem xc_50_2 : zCd 50 [0, 4, 40, 46] 40 xb_50_2 := zc_iinc xj_50 43 2 1 1 rfl rfl rfl (zf_inc_2 _) (zc_goto xj_50 44 (-39) 4 rfl rfl rfl (trivial))
noncomputable def xb_50_1 : List zF := zq_ildg zG2 :: zq_aldg zG0 :: zq_getfg 1 zG8 :: zq_ic_ge 46 :: zq_aldg zG0 :: zq_aldg zG0 :: zq_getfg 1 zG4 :: zq_k 2 :: zq_ildg zG2 :: zq_mul :: zq_ild_ 0 :: zq_aldg zG0 :: zq_getfg 1 zG4 :: zq_k 2 :: zq_ildg zG2 :: zq_mul :: zq_k 1 :: zq_add :: zq_ild_ 0 :: zq_calli 25 2 1 3 :: zq_if_ne 40 :: zq_incg zG1 zE1 1 :: xb_50_2
noncomputable def xf_50_1 : zE → zKn := fun E => zq_ildg zG2 (zq_aldg zG0 (zq_getfg 1 zG8 (zq_ic_ge 46 (zq_aldg zG0 (zq_aldg zG0 (zq_getfg 1 zG4 (zq_k 2 (zq_ildg zG2 (zq_mul (zq_ild_ 0 (zq_aldg zG0 (zq_getfg 1 zG4 (zq_k 2 (zq_ildg zG2 (zq_mul (zq_k 1 (zq_add (zq_ild_ 0 (zq_calli 25 2 1 3 (zq_if_ne 40 (zq_incg zG1 zE1 1 (xf_50_2 E) E) E) E) E) E) E) E) E) E) E) E) E) E) E) E) E) E) E) E) E) E) E
theorem xe_50_1 : xf_50_1 = zEx xb_50_1 := by
  unfold xf_50_1 xb_50_1
  rw [xe_50_2]
  rfl
theorem xc_50_1 : zCd 50 [0, 4, 40, 46] 4 xb_50_1 := zc_iload_n xj_50 5 2 rfl rfl zf_ild_2 (zc_aload_n xj_50 6 0 rfl rfl zf_ald_0 (zc_getf xj_50 9 155 1 8 50 rfl rfl (zf_getf_8 _) (zc_ic_ge xj_50 12 37 46 rfl rfl rfl (zc_aload_n xj_50 13 0 rfl rfl zf_ald_0 (zc_aload_n xj_50 14 0 rfl rfl zf_ald_0 (zc_getf xj_50 17 28 1 4 35 rfl rfl (zf_getf_4 _) (zc_iconst xj_50 18 2 2 rfl rfl rfl (zc_iload_n xj_50 19 2 rfl rfl zf_ild_2 (zc_imul xj_50 20 rfl rfl (zc_iaload xj_50 21 rfl rfl (zc_aload_n xj_50 22 0 rfl rfl zf_ald_0 (zc_getf xj_50 25 28 1 4 35 rfl rfl (zf_getf_4 _) (zc_iconst xj_50 26 2 2 rfl rfl rfl (zc_iload_n xj_50 27 2 rfl rfl zf_ild_2 (zc_imul xj_50 28 rfl rfl (zc_iconst xj_50 29 1 1 rfl rfl rfl (zc_iadd xj_50 30 rfl rfl (zc_iaload xj_50 31 rfl rfl (zc_invokevirtual1 xj_50 34 179 25 2 61 1 3 rfl rfl rfl rfl (zc_if_ne xj_50 37 6 40 rfl rfl rfl (zc_iinc xj_50 40 1 1 1 rfl rfl rfl (zf_inc_1 _) (xc_50_2))))))))))))))))))))))
noncomputable def xb_50_0 : List zF := zq_k 0 :: zq_istg zE1 :: zq_k 0 :: zq_istg zE2 :: xb_50_1
noncomputable def xf_50_0 : zE → zKn := fun E => zq_k 0 (zq_istg zE1 (zq_k 0 (zq_istg zE2 (xf_50_1 E) E) E) E) E
theorem xe_50_0 : xf_50_0 = zEx xb_50_0 := by
  unfold xf_50_0 xb_50_0
  rw [xe_50_1]
  rfl
theorem xc_50_0 : zCd 50 [0, 4, 40, 46] 0 xb_50_0 := zc_iconst xj_50 1 0 0 rfl rfl rfl (zc_istore_n xj_50 2 1 rfl rfl zf_ist_1 (zc_iconst xj_50 3 0 0 rfl rfl rfl (zc_istore_n xj_50 4 2 rfl rfl zf_ist_2 (xc_50_1))))
noncomputable def xm_50 : Lean.RArray (zE → zKn) := .branch 40 (.branch 4 (.leaf xf_50_0) (.leaf xf_50_1)) (.branch 46 (.leaf xf_50_2) (.leaf xf_50_3))
theorem xa_50 : zCdAll 50 [0, 4, 40, 46] xm_50 := zAll2_ok (P := fun t => ∃ c, zCd 50 [0, 4, 40, 46] t c ∧ xm_50.get t = zEx c) ⟨⟨_, xc_50_0, xe_50_0⟩, ⟨_, xc_50_1, xe_50_1⟩, ⟨_, xc_50_2, xe_50_2⟩, ⟨_, xc_50_3, xe_50_3⟩, trivial⟩
/-- SquareMesh$Mesh.isBent -/
theorem xj_51 : ∀ pc, pI 51 pc = pJ_51 pc := fun _ => rfl
noncomputable def xb_51_2 : List zF := [zq_iret 1]
noncomputable def xf_51_2 : zE → zKn := fun E => zq_iret 1 (zNil) E
theorem xe_51_2 : xf_51_2 = zEx xb_51_2 := by
  unfold xf_51_2 xb_51_2
  rfl
theorem xc_51_2 : zCd 51 [0, 54, 55] 55 xb_51_2 := zc_ireturn1 xj_51 56 rfl rfl (trivial)
noncomputable def xb_51_1 : List zF := zq_k 0 :: xb_51_2
noncomputable def xf_51_1 : zE → zKn := fun E => zq_k 0 (xf_51_2 E) E
theorem xe_51_1 : xf_51_1 = zEx xb_51_1 := by
  unfold xf_51_1 xb_51_1
  rw [xe_51_2]
  rfl
theorem xc_51_1 : zCd 51 [0, 54, 55] 54 xb_51_1 := zc_iconst xj_51 55 0 0 rfl rfl rfl (xc_51_2)
noncomputable def xb_51_0 : List zF := [zq_aldg zG0, zq_getfg 1 zG4, zq_k 2, zq_ildg zG1, zq_mul, zq_ild_ 0, zq_istg zE2, zq_aldg zG0, zq_getfg 1 zG4, zq_k 2, zq_ildg zG1, zq_mul, zq_k 1, zq_add, zq_ild_ 0, zq_istg zE3, zq_aldg zG0, zq_getfg 1 zG0, zq_ildg zG2, zq_ildg zG3, zq_calli 91 2 5 3, zq_if_eq 54, zq_aldg zG0, zq_ildg zG2, zq_ildg zG3, zq_calli 25 2 1 3, zq_if_eq 54, zq_aldg zG0, zq_ildg zG2, zq_ildg zG3, zq_calli 26 2 1 8, zq_if_ne 54, zq_k 1, zq_goto 55]
noncomputable def xf_51_0 : zE → zKn := fun E => zq_aldg zG0 (zq_getfg 1 zG4 (zq_k 2 (zq_ildg zG1 (zq_mul (zq_ild_ 0 (zq_istg zE2 (zq_aldg zG0 (zq_getfg 1 zG4 (zq_k 2 (zq_ildg zG1 (zq_mul (zq_k 1 (zq_add (zq_ild_ 0 (zq_istg zE3 (zq_aldg zG0 (zq_getfg 1 zG0 (zq_ildg zG2 (zq_ildg zG3 (zq_calli 91 2 5 3 (zq_if_eq 54 (zq_aldg zG0 (zq_ildg zG2 (zq_ildg zG3 (zq_calli 25 2 1 3 (zq_if_eq 54 (zq_aldg zG0 (zq_ildg zG2 (zq_ildg zG3 (zq_calli 26 2 1 8 (zq_if_ne 54 (zq_k 1 (zq_goto 55 (zNil) E) E) E) E) E) E) E) E) E) E) E) E) E) E) E) E) E) E) E) E) E) E) E) E) E) E) E) E) E) E) E) E) E) E
set_option maxRecDepth 100000 in
theorem xe_51_0 : xf_51_0 = zEx xb_51_0 := by
  unfold xf_51_0 xb_51_0
  rfl
theorem xc_51_0 : zCd 51 [0, 54, 55] 0 xb_51_0 := zc_aload_n xj_51 1 0 rfl rfl zf_ald_0 (zc_getf xj_51 4 28 1 4 35 rfl rfl (zf_getf_4 _) (zc_iconst xj_51 5 2 2 rfl rfl rfl (zc_iload_n xj_51 6 1 rfl rfl zf_ild_1 (zc_imul xj_51 7 rfl rfl (zc_iaload xj_51 8 rfl rfl (zc_istore_n xj_51 9 2 rfl rfl zf_ist_2 (zc_aload_n xj_51 10 0 rfl rfl zf_ald_0 (zc_getf xj_51 13 28 1 4 35 rfl rfl (zf_getf_4 _) (zc_iconst xj_51 14 2 2 rfl rfl rfl (zc_iload_n xj_51 15 1 rfl rfl zf_ild_1 (zc_imul xj_51 16 rfl rfl (zc_iconst xj_51 17 1 1 rfl rfl rfl (zc_iadd xj_51 18 rfl rfl (zc_iaload xj_51 19 rfl rfl (zc_istore_n xj_51 20 3 rfl rfl zf_ist_3 (zc_aload_n xj_51 21 0 rfl rfl zf_ald_0 (zc_getf xj_51 24 12 1 0 24 rfl rfl (zf_getf_0 _) (zc_iload_n xj_51 25 2 rfl rfl zf_ild_2 (zc_iload_n xj_51 26 3 rfl rfl zf_ild_3 (zc_invokevirtual1 xj_51 29 122 91 2 58 5 3 rfl rfl rfl rfl (zc_if_eq xj_51 32 25 54 rfl rfl rfl (zc_aload_n xj_51 33 0 rfl rfl zf_ald_0 (zc_iload_n xj_51 34 2 rfl rfl zf_ild_2 (zc_iload_n xj_51 35 3 rfl rfl zf_ild_3 (zc_invokevirtual1 xj_51 38 179 25 2 61 1 3 rfl rfl rfl rfl (zc_if_eq xj_51 41 16 54 rfl rfl rfl (zc_aload_n xj_51 42 0 rfl rfl zf_ald_0 (zc_iload_n xj_51 43 2 rfl rfl zf_ild_2 (zc_iload_n xj_51 44 3 rfl rfl zf_ild_3 (zc_invokevirtual1 xj_51 47 190 26 2 62 1 8 rfl rfl rfl rfl (zc_if_ne xj_51 50 7 54 rfl rfl rfl (zc_iconst xj_51 51 1 1 rfl rfl rfl (zc_goto xj_51 52 4 55 rfl rfl rfl (trivial))))))))))))))))))))))))))))))))))
noncomputable def xm_51 : Lean.RArray (zE → zKn) := .branch 54 (.leaf xf_51_0) (.branch 55 (.leaf xf_51_1) (.leaf xf_51_2))
theorem xa_51 : zCdAll 51 [0, 54, 55] xm_51 := zAll2_ok (P := fun t => ∃ c, zCd 51 [0, 54, 55] t c ∧ xm_51.get t = zEx c) ⟨⟨_, xc_51_0, xe_51_0⟩, ⟨_, xc_51_1, xe_51_1⟩, ⟨_, xc_51_2, xe_51_2⟩, trivial⟩
/-- SquareMesh$Mesh.countBent -/
theorem xj_52 : ∀ pc, pI 52 pc = pJ_52 pc := fun _ => rfl
noncomputable def xb_52_3 : List zF := [zq_ildg zG1, zq_iret 0]
noncomputable def xf_52_3 : zE → zKn := fun E => zq_ildg zG1 (zq_iret 0 (zNil) E) E
theorem xe_52_3 : xf_52_3 = zEx xb_52_3 := by
  unfold xf_52_3 xb_52_3
  rfl
theorem xc_52_3 : zCd 52 [0, 4, 23, 29] 29 xb_52_3 := zc_iload_n xj_52 30 1 rfl rfl zf_ild_1 (zc_ireturn0 xj_52 31 rfl rfl (trivial))
noncomputable def xb_52_2 : List zF := [zq_incg zG2 zE2 1, zq_goto 4]
noncomputable def xf_52_2 : zE → zKn := fun E => zq_incg zG2 zE2 1 (zq_goto 4 (zNil) E) E
theorem xe_52_2 : xf_52_2 = zEx xb_52_2 := by
  unfold xf_52_2 xb_52_2
  rfl
theorem xc_52_2 : zCd 52 [0, 4, 23, 29] 23 xb_52_2 := zc_iinc xj_52 26 2 1 1 rfl rfl rfl (zf_inc_2 _) (zc_goto xj_52 27 (-22) 4 rfl rfl rfl (trivial))
noncomputable def xb_52_1 : List zF := zq_ildg zG2 :: zq_aldg zG0 :: zq_getfg 1 zG8 :: zq_ic_ge 29 :: zq_aldg zG0 :: zq_ildg zG2 :: zq_calli 51 1 1 4 :: zq_if_eq 23 :: zq_incg zG1 zE1 1 :: xb_52_2
noncomputable def xf_52_1 : zE → zKn := fun E => zq_ildg zG2 (zq_aldg zG0 (zq_getfg 1 zG8 (zq_ic_ge 29 (zq_aldg zG0 (zq_ildg zG2 (zq_calli 51 1 1 4 (zq_if_eq 23 (zq_incg zG1 zE1 1 (xf_52_2 E) E) E) E) E) E) E) E) E) E
theorem xe_52_1 : xf_52_1 = zEx xb_52_1 := by
  unfold xf_52_1 xb_52_1
  rw [xe_52_2]
  rfl
theorem xc_52_1 : zCd 52 [0, 4, 23, 29] 4 xb_52_1 := zc_iload_n xj_52 5 2 rfl rfl zf_ild_2 (zc_aload_n xj_52 6 0 rfl rfl zf_ald_0 (zc_getf xj_52 9 155 1 8 50 rfl rfl (zf_getf_8 _) (zc_ic_ge xj_52 12 20 29 rfl rfl rfl (zc_aload_n xj_52 13 0 rfl rfl zf_ald_0 (zc_iload_n xj_52 14 2 rfl rfl zf_ild_2 (zc_invokevirtual1 xj_52 17 236 51 1 133 1 4 rfl rfl rfl rfl (zc_if_eq xj_52 20 6 23 rfl rfl rfl (zc_iinc xj_52 23 1 1 1 rfl rfl rfl (zf_inc_1 _) (xc_52_2)))))))))
noncomputable def xb_52_0 : List zF := zq_k 0 :: zq_istg zE1 :: zq_k 0 :: zq_istg zE2 :: xb_52_1
noncomputable def xf_52_0 : zE → zKn := fun E => zq_k 0 (zq_istg zE1 (zq_k 0 (zq_istg zE2 (xf_52_1 E) E) E) E) E
theorem xe_52_0 : xf_52_0 = zEx xb_52_0 := by
  unfold xf_52_0 xb_52_0
  rw [xe_52_1]
  rfl
theorem xc_52_0 : zCd 52 [0, 4, 23, 29] 0 xb_52_0 := zc_iconst xj_52 1 0 0 rfl rfl rfl (zc_istore_n xj_52 2 1 rfl rfl zf_ist_1 (zc_iconst xj_52 3 0 0 rfl rfl rfl (zc_istore_n xj_52 4 2 rfl rfl zf_ist_2 (xc_52_1))))
noncomputable def xm_52 : Lean.RArray (zE → zKn) := .branch 23 (.branch 4 (.leaf xf_52_0) (.leaf xf_52_1)) (.branch 29 (.leaf xf_52_2) (.leaf xf_52_3))
theorem xa_52 : zCdAll 52 [0, 4, 23, 29] xm_52 := zAll2_ok (P := fun t => ∃ c, zCd 52 [0, 4, 23, 29] t c ∧ xm_52.get t = zEx c) ⟨⟨_, xc_52_0, xe_52_0⟩, ⟨_, xc_52_1, xe_52_1⟩, ⟨_, xc_52_2, xe_52_2⟩, ⟨_, xc_52_3, xe_52_3⟩, trivial⟩
/-- SquareMesh$Mesh.countAngles -/
theorem xj_53 : ∀ pc, pI 53 pc = pJ_53 pc := fun _ => rfl
noncomputable def xb_53_3 : List zF := [zq_ildg zG2, zq_iret 0]
noncomputable def xf_53_3 : zE → zKn := fun E => zq_ildg zG2 (zq_iret 0 (zNil) E) E
theorem xe_53_3 : xf_53_3 = zEx xb_53_3 := by
  unfold xf_53_3 xb_53_3
  rfl
theorem xc_53_3 : zCd 53 [0, 4, 63, 69] 69 xb_53_3 := zc_iload_n xj_53 70 2 rfl rfl zf_ild_2 (zc_ireturn0 xj_53 71 rfl rfl (trivial))
noncomputable def xb_53_2 : List zF := [zq_incg zG3 zE3 1, zq_goto 4]
noncomputable def xf_53_2 : zE → zKn := fun E => zq_incg zG3 zE3 1 (zq_goto 4 (zNil) E) E
theorem xe_53_2 : xf_53_2 = zEx xb_53_2 := by
  unfold xf_53_2 xb_53_2
  rfl
theorem xc_53_2 : zCd 53 [0, 4, 63, 69] 63 xb_53_2 := zc_iinc xj_53 66 3 1 1 rfl rfl rfl (zf_inc_3 _) (zc_goto xj_53 67 (-62) 4 rfl rfl rfl (trivial))
noncomputable def xb_53_1 : List zF := zq_ildg zG3 :: zq_aldg zG0 :: zq_getfg 1 zG7 :: zq_ic_ge 69 :: zq_aldg zG0 :: zq_ildg zG3 :: zq_aldg zG0 :: zq_ildg zG3 :: zq_calli 54 1 1 4 :: zq_calli 41 2 1 3 :: zq_istg zE4 :: zq_aldg zG0 :: zq_ildg zG3 :: zq_k 0 :: zq_calli 41 2 1 3 :: zq_aldg zG0 :: zq_ildg zG3 :: zq_k 1 :: zq_calli 41 2 1 3 :: zq_add :: zq_aldg zG0 :: zq_ildg zG3 :: zq_k 2 :: zq_calli 41 2 1 3 :: zq_add :: zq_ildg zG4 :: zq_sub :: zq_istg zE5 :: zq_ildg zG5 :: zq_ildg zG4 :: zq_calls 348 2 2 :: zq_ildg zG1 :: zq_ic_ne 63 :: zq_incg zG2 zE2 1 :: xb_53_2
noncomputable def xf_53_1 : zE → zKn := fun E => zq_ildg zG3 (zq_aldg zG0 (zq_getfg 1 zG7 (zq_ic_ge 69 (zq_aldg zG0 (zq_ildg zG3 (zq_aldg zG0 (zq_ildg zG3 (zq_calli 54 1 1 4 (zq_calli 41 2 1 3 (zq_istg zE4 (zq_aldg zG0 (zq_ildg zG3 (zq_k 0 (zq_calli 41 2 1 3 (zq_aldg zG0 (zq_ildg zG3 (zq_k 1 (zq_calli 41 2 1 3 (zq_add (zq_aldg zG0 (zq_ildg zG3 (zq_k 2 (zq_calli 41 2 1 3 (zq_add (zq_ildg zG4 (zq_sub (zq_istg zE5 (zq_ildg zG5 (zq_ildg zG4 (zq_calls 348 2 2 (zq_ildg zG1 (zq_ic_ne 63 (zq_incg zG2 zE2 1 (xf_53_2 E) E) E) E) E) E) E) E) E) E) E) E) E) E) E) E) E) E) E) E) E) E) E) E) E) E) E) E) E) E) E) E) E) E) E
set_option maxRecDepth 100000 in
theorem xe_53_1 : xf_53_1 = zEx xb_53_1 := by
  unfold xf_53_1 xb_53_1
  rw [xe_53_2]
  rfl
theorem xc_53_1 : zCd 53 [0, 4, 63, 69] 4 xb_53_1 := zc_iload_n xj_53 5 3 rfl rfl zf_ild_3 (zc_aload_n xj_53 6 0 rfl rfl zf_ald_0 (zc_getf xj_53 9 78 1 7 45 rfl rfl (zf_getf_7 _) (zc_ic_ge xj_53 12 60 69 rfl rfl rfl (zc_aload_n xj_53 13 0 rfl rfl zf_ald_0 (zc_iload_n xj_53 14 3 rfl rfl zf_ild_3 (zc_aload_n xj_53 15 0 rfl rfl zf_ald_0 (zc_iload_n xj_53 16 3 rfl rfl zf_ild_3 (zc_invokevirtual1 xj_53 19 239 54 1 103 1 4 rfl rfl rfl rfl (zc_invokevirtual1 xj_53 22 242 41 2 104 1 3 rfl rfl rfl rfl (zc_istore xj_53 24 4 rfl rfl zf_ist_4 (zc_aload_n xj_53 25 0 rfl rfl zf_ald_0 (zc_iload_n xj_53 26 3 rfl rfl zf_ild_3 (zc_iconst xj_53 27 0 0 rfl rfl rfl (zc_invokevirtual1 xj_53 30 242 41 2 104 1 3 rfl rfl rfl rfl (zc_aload_n xj_53 31 0 rfl rfl zf_ald_0 (zc_iload_n xj_53 32 3 rfl rfl zf_ild_3 (zc_iconst xj_53 33 1 1 rfl rfl rfl (zc_invokevirtual1 xj_53 36 242 41 2 104 1 3 rfl rfl rfl rfl (zc_iadd xj_53 37 rfl rfl (zc_aload_n xj_53 38 0 rfl rfl zf_ald_0 (zc_iload_n xj_53 39 3 rfl rfl zf_ild_3 (zc_iconst xj_53 40 2 2 rfl rfl rfl (zc_invokevirtual1 xj_53 43 242 41 2 104 1 3 rfl rfl rfl rfl (zc_iadd xj_53 44 rfl rfl (zc_iload xj_53 46 4 rfl rfl zf_ild_4 (zc_isub xj_53 47 rfl rfl (zc_istore xj_53 49 5 rfl rfl zf_ist_5 (zc_iload xj_53 51 5 rfl rfl zf_ild_5 (zc_iload xj_53 53 4 rfl rfl zf_ild_4 (zc_invokestatic2 xj_53 56 245 348 2 135 0 2 rfl rfl rfl rfl (zc_iload_n xj_53 57 1 rfl rfl zf_ild_1 (zc_ic_ne xj_53 60 6 63 rfl rfl rfl (zc_iinc xj_53 63 2 1 1 rfl rfl rfl (zf_inc_2 _) (xc_53_2))))))))))))))))))))))))))))))))))
noncomputable def xb_53_0 : List zF := zq_k 0 :: zq_istg zE2 :: zq_k 0 :: zq_istg zE3 :: xb_53_1
noncomputable def xf_53_0 : zE → zKn := fun E => zq_k 0 (zq_istg zE2 (zq_k 0 (zq_istg zE3 (xf_53_1 E) E) E) E) E
theorem xe_53_0 : xf_53_0 = zEx xb_53_0 := by
  unfold xf_53_0 xb_53_0
  rw [xe_53_1]
  rfl
theorem xc_53_0 : zCd 53 [0, 4, 63, 69] 0 xb_53_0 := zc_iconst xj_53 1 0 0 rfl rfl rfl (zc_istore_n xj_53 2 2 rfl rfl zf_ist_2 (zc_iconst xj_53 3 0 0 rfl rfl rfl (zc_istore_n xj_53 4 3 rfl rfl zf_ist_3 (xc_53_1))))
noncomputable def xm_53 : Lean.RArray (zE → zKn) := .branch 63 (.branch 4 (.leaf xf_53_0) (.leaf xf_53_1)) (.branch 69 (.leaf xf_53_2) (.leaf xf_53_3))
theorem xa_53 : zCdAll 53 [0, 4, 63, 69] xm_53 := zAll2_ok (P := fun t => ∃ c, zCd 53 [0, 4, 63, 69] t c ∧ xm_53.get t = zEx c) ⟨⟨_, xc_53_0, xe_53_0⟩, ⟨_, xc_53_1, xe_53_1⟩, ⟨_, xc_53_2, xe_53_2⟩, ⟨_, xc_53_3, xe_53_3⟩, trivial⟩
/-- SquareMesh$Mesh.longestSide -/
theorem xj_54 : ∀ pc, pI 54 pc = pJ_54 pc := fun _ => rfl
noncomputable def xb_54_3 : List zF := [zq_ildg zG2, zq_iret 0]
noncomputable def xf_54_3 : zE → zKn := fun E => zq_ildg zG2 (zq_iret 0 (zNil) E) E
theorem xe_54_3 : xf_54_3 = zEx xb_54_3 := by
  unfold xf_54_3 xb_54_3
  rfl
theorem xc_54_3 : zCd 54 [0, 4, 26, 32] 32 xb_54_3 := zc_iload_n xj_54 33 2 rfl rfl zf_ild_2 (zc_ireturn0 xj_54 34 rfl rfl (trivial))
noncomputable def xb_54_2 : List zF := [zq_incg zG3 zE3 1, zq_goto 4]
noncomputable def xf_54_2 : zE → zKn := fun E => zq_incg zG3 zE3 1 (zq_goto 4 (zNil) E) E
theorem xe_54_2 : xf_54_2 = zEx xb_54_2 := by
  unfold xf_54_2 xb_54_2
  rfl
theorem xc_54_2 : zCd 54 [0, 4, 26, 32] 26 xb_54_2 := zc_iinc xj_54 29 3 1 1 rfl rfl rfl (zf_inc_3 _) (zc_goto xj_54 30 (-25) 4 rfl rfl rfl (trivial))
noncomputable def xb_54_1 : List zF := zq_ildg zG3 :: zq_k 3 :: zq_ic_ge 32 :: zq_aldg zG0 :: zq_ildg zG1 :: zq_ildg zG3 :: zq_calli 41 2 1 3 :: zq_aldg zG0 :: zq_ildg zG1 :: zq_ildg zG2 :: zq_calli 41 2 1 3 :: zq_ic_le 26 :: zq_ildg zG3 :: zq_istg zE2 :: xb_54_2
noncomputable def xf_54_1 : zE → zKn := fun E => zq_ildg zG3 (zq_k 3 (zq_ic_ge 32 (zq_aldg zG0 (zq_ildg zG1 (zq_ildg zG3 (zq_calli 41 2 1 3 (zq_aldg zG0 (zq_ildg zG1 (zq_ildg zG2 (zq_calli 41 2 1 3 (zq_ic_le 26 (zq_ildg zG3 (zq_istg zE2 (xf_54_2 E) E) E) E) E) E) E) E) E) E) E) E) E) E) E
theorem xe_54_1 : xf_54_1 = zEx xb_54_1 := by
  unfold xf_54_1 xb_54_1
  rw [xe_54_2]
  rfl
theorem xc_54_1 : zCd 54 [0, 4, 26, 32] 4 xb_54_1 := zc_iload_n xj_54 5 3 rfl rfl zf_ild_3 (zc_iconst xj_54 6 3 3 rfl rfl rfl (zc_ic_ge xj_54 9 26 32 rfl rfl rfl (zc_aload_n xj_54 10 0 rfl rfl zf_ald_0 (zc_iload_n xj_54 11 1 rfl rfl zf_ild_1 (zc_iload_n xj_54 12 3 rfl rfl zf_ild_3 (zc_invokevirtual1 xj_54 15 242 41 2 104 1 3 rfl rfl rfl rfl (zc_aload_n xj_54 16 0 rfl rfl zf_ald_0 (zc_iload_n xj_54 17 1 rfl rfl zf_ild_1 (zc_iload_n xj_54 18 2 rfl rfl zf_ild_2 (zc_invokevirtual1 xj_54 21 242 41 2 104 1 3 rfl rfl rfl rfl (zc_ic_le xj_54 24 5 26 rfl rfl rfl (zc_iload_n xj_54 25 3 rfl rfl zf_ild_3 (zc_istore_n xj_54 26 2 rfl rfl zf_ist_2 (xc_54_2))))))))))))))
noncomputable def xb_54_0 : List zF := zq_k 0 :: zq_istg zE2 :: zq_k 1 :: zq_istg zE3 :: xb_54_1
noncomputable def xf_54_0 : zE → zKn := fun E => zq_k 0 (zq_istg zE2 (zq_k 1 (zq_istg zE3 (xf_54_1 E) E) E) E) E
theorem xe_54_0 : xf_54_0 = zEx xb_54_0 := by
  unfold xf_54_0 xb_54_0
  rw [xe_54_1]
  rfl
theorem xc_54_0 : zCd 54 [0, 4, 26, 32] 0 xb_54_0 := zc_iconst xj_54 1 0 0 rfl rfl rfl (zc_istore_n xj_54 2 2 rfl rfl zf_ist_2 (zc_iconst xj_54 3 1 1 rfl rfl rfl (zc_istore_n xj_54 4 3 rfl rfl zf_ist_3 (xc_54_1))))
noncomputable def xm_54 : Lean.RArray (zE → zKn) := .branch 26 (.branch 4 (.leaf xf_54_0) (.leaf xf_54_1)) (.branch 32 (.leaf xf_54_2) (.leaf xf_54_3))
theorem xa_54 : zCdAll 54 [0, 4, 26, 32] xm_54 := zAll2_ok (P := fun t => ∃ c, zCd 54 [0, 4, 26, 32] t c ∧ xm_54.get t = zEx c) ⟨⟨_, xc_54_0, xe_54_0⟩, ⟨_, xc_54_1, xe_54_1⟩, ⟨_, xc_54_2, xe_54_2⟩, ⟨_, xc_54_3, xe_54_3⟩, trivial⟩
/-- SquareMesh$Mesh.thinnestOne -/
theorem xj_55 : ∀ pc, pI 55 pc = pJ_55 pc := fun _ => rfl
noncomputable def xb_55_3 : List zF := [zq_ildg zG1, zq_iret 0]
noncomputable def xf_55_3 : zE → zKn := fun E => zq_ildg zG1 (zq_iret 0 (zNil) E) E
theorem xe_55_3 : xf_55_3 = zEx xb_55_3 := by
  unfold xf_55_3 xb_55_3
  rfl
theorem xc_55_3 : zCd 55 [0, 25, 81, 87] 87 xb_55_3 := zc_iload_n xj_55 88 1 rfl rfl zf_ild_1 (zc_ireturn0 xj_55 89 rfl rfl (trivial))
noncomputable def xb_55_2 : List zF := [zq_incg zG6 zE6 1, zq_goto 25]
noncomputable def xf_55_2 : zE → zKn := fun E => zq_incg zG6 zE6 1 (zq_goto 25 (zNil) E) E
theorem xe_55_2 : xf_55_2 = zEx xb_55_2 := by
  unfold xf_55_2 xb_55_2
  rfl
theorem xc_55_2 : zCd 55 [0, 25, 81, 87] 81 xb_55_2 := zc_iinc xj_55 84 6 1 1 rfl rfl rfl (zf_inc_6 _) (zc_goto xj_55 85 (-59) 25 rfl rfl rfl (trivial))
noncomputable def xb_55_1 : List zF := zq_ildg zG6 :: zq_aldg zG0 :: zq_getfg 1 zG7 :: zq_ic_ge 87 :: zq_aldg zG0 :: zq_ildg zG6 :: zq_calli 39 1 1 2 :: zq_i2l :: zq_lst 7 :: zq_aldg zG0 :: zq_ildg zG6 :: zq_aldg zG0 :: zq_ildg zG6 :: zq_calli 54 1 1 4 :: zq_calli 41 2 1 3 :: zq_i2l :: zq_lst 9 :: zq_lldg zG7 :: zq_lldg zG4 :: zq_lmul :: zq_lldg zG2 :: zq_lldg zG9 :: zq_lmul :: zq_lcmp :: zq_if_ge 81 :: zq_ildg zG6 :: zq_istg zE1 :: zq_lldg zG7 :: zq_lst 2 :: zq_lldg zG9 :: zq_lst 4 :: xb_55_2
noncomputable def xf_55_1 : zE → zKn := fun E => zq_ildg zG6 (zq_aldg zG0 (zq_getfg 1 zG7 (zq_ic_ge 87 (zq_aldg zG0 (zq_ildg zG6 (zq_calli 39 1 1 2 (zq_i2l (zq_lst 7 (zq_aldg zG0 (zq_ildg zG6 (zq_aldg zG0 (zq_ildg zG6 (zq_calli 54 1 1 4 (zq_calli 41 2 1 3 (zq_i2l (zq_lst 9 (zq_lldg zG7 (zq_lldg zG4 (zq_lmul (zq_lldg zG2 (zq_lldg zG9 (zq_lmul (zq_lcmp (zq_if_ge 81 (zq_ildg zG6 (zq_istg zE1 (zq_lldg zG7 (zq_lst 2 (zq_lldg zG9 (zq_lst 4 (xf_55_2 E) E) E) E) E) E) E) E) E) E) E) E) E) E) E) E) E) E) E) E) E) E) E) E) E) E) E) E) E) E) E) E
set_option maxRecDepth 100000 in
theorem xe_55_1 : xf_55_1 = zEx xb_55_1 := by
  unfold xf_55_1 xb_55_1
  rw [xe_55_2]
  rfl
theorem xc_55_1 : zCd 55 [0, 25, 81, 87] 25 xb_55_1 := zc_iload xj_55 27 6 rfl rfl zf_ild_6 (zc_aload_n xj_55 28 0 rfl rfl zf_ald_0 (zc_getf xj_55 31 78 1 7 45 rfl rfl (zf_getf_7 _) (zc_ic_ge xj_55 34 56 87 rfl rfl rfl (zc_aload_n xj_55 35 0 rfl rfl zf_ald_0 (zc_iload xj_55 37 6 rfl rfl zf_ild_6 (zc_invokevirtual1 xj_55 40 250 39 1 102 1 2 rfl rfl rfl rfl (zc_i2l xj_55 41 rfl rfl (zc_lstore xj_55 43 7 rfl rfl rfl (zc_aload_n xj_55 44 0 rfl rfl zf_ald_0 (zc_iload xj_55 46 6 rfl rfl zf_ild_6 (zc_aload_n xj_55 47 0 rfl rfl zf_ald_0 (zc_iload xj_55 49 6 rfl rfl zf_ild_6 (zc_invokevirtual1 xj_55 52 239 54 1 103 1 4 rfl rfl rfl rfl (zc_invokevirtual1 xj_55 55 242 41 2 104 1 3 rfl rfl rfl rfl (zc_i2l xj_55 56 rfl rfl (zc_lstore xj_55 58 9 rfl rfl rfl (zc_lload xj_55 60 7 rfl rfl zf_lld_7 (zc_lload xj_55 62 4 rfl rfl zf_lld_4 (zc_lmul xj_55 63 rfl rfl (zc_lload_n xj_55 64 2 rfl rfl zf_lld_2 (zc_lload xj_55 66 9 rfl rfl zf_lld_9 (zc_lmul xj_55 67 rfl rfl (zc_lcmp xj_55 68 rfl rfl (zc_if_ge xj_55 71 13 81 rfl rfl rfl (zc_iload xj_55 73 6 rfl rfl zf_ild_6 (zc_istore_n xj_55 74 1 rfl rfl zf_ist_1 (zc_lload xj_55 76 7 rfl rfl zf_lld_7 (zc_lstore_n xj_55 77 2 rfl rfl rfl (zc_lload xj_55 79 9 rfl rfl zf_lld_9 (zc_lstore xj_55 81 4 rfl rfl rfl (xc_55_2)))))))))))))))))))))))))))))))
noncomputable def xb_55_0 : List zF := zq_k 0 :: zq_istg zE1 :: zq_aldg zG0 :: zq_k 0 :: zq_calli 39 1 1 2 :: zq_i2l :: zq_lst 2 :: zq_aldg zG0 :: zq_k 0 :: zq_aldg zG0 :: zq_k 0 :: zq_calli 54 1 1 4 :: zq_calli 41 2 1 3 :: zq_i2l :: zq_lst 4 :: zq_k 1 :: zq_istg zE6 :: xb_55_1
noncomputable def xf_55_0 : zE → zKn := fun E => zq_k 0 (zq_istg zE1 (zq_aldg zG0 (zq_k 0 (zq_calli 39 1 1 2 (zq_i2l (zq_lst 2 (zq_aldg zG0 (zq_k 0 (zq_aldg zG0 (zq_k 0 (zq_calli 54 1 1 4 (zq_calli 41 2 1 3 (zq_i2l (zq_lst 4 (zq_k 1 (zq_istg zE6 (xf_55_1 E) E) E) E) E) E) E) E) E) E) E) E) E) E) E) E) E) E
theorem xe_55_0 : xf_55_0 = zEx xb_55_0 := by
  unfold xf_55_0 xb_55_0
  rw [xe_55_1]
  rfl
theorem xc_55_0 : zCd 55 [0, 25, 81, 87] 0 xb_55_0 := zc_iconst xj_55 1 0 0 rfl rfl rfl (zc_istore_n xj_55 2 1 rfl rfl zf_ist_1 (zc_aload_n xj_55 3 0 rfl rfl zf_ald_0 (zc_iconst xj_55 4 0 0 rfl rfl rfl (zc_invokevirtual1 xj_55 7 250 39 1 102 1 2 rfl rfl rfl rfl (zc_i2l xj_55 8 rfl rfl (zc_lstore_n xj_55 9 2 rfl rfl rfl (zc_aload_n xj_55 10 0 rfl rfl zf_ald_0 (zc_iconst xj_55 11 0 0 rfl rfl rfl (zc_aload_n xj_55 12 0 rfl rfl zf_ald_0 (zc_iconst xj_55 13 0 0 rfl rfl rfl (zc_invokevirtual1 xj_55 16 239 54 1 103 1 4 rfl rfl rfl rfl (zc_invokevirtual1 xj_55 19 242 41 2 104 1 3 rfl rfl rfl rfl (zc_i2l xj_55 20 rfl rfl (zc_lstore xj_55 22 4 rfl rfl rfl (zc_iconst xj_55 23 1 1 rfl rfl rfl (zc_istore xj_55 25 6 rfl rfl zf_ist_6 (xc_55_1)))))))))))))))))
noncomputable def xm_55 : Lean.RArray (zE → zKn) := .branch 81 (.branch 25 (.leaf xf_55_0) (.leaf xf_55_1)) (.branch 87 (.leaf xf_55_2) (.leaf xf_55_3))
theorem xa_55 : zCdAll 55 [0, 25, 81, 87] xm_55 := zAll2_ok (P := fun t => ∃ c, zCd 55 [0, 25, 81, 87] t c ∧ xm_55.get t = zEx c) ⟨⟨_, xc_55_0, xe_55_0⟩, ⟨_, xc_55_1, xe_55_1⟩, ⟨_, xc_55_2, xe_55_2⟩, ⟨_, xc_55_3, xe_55_3⟩, trivial⟩
/-- SquareMesh$Mesh.lowestNear -/
theorem xj_56 : ∀ pc, pI 56 pc = pJ_56 pc := fun _ => rfl
noncomputable def xb_56_4 : List zF := [zq_ildg zG2, zq_iret 0]
noncomputable def xf_56_4 : zE → zKn := fun E => zq_ildg zG2 (zq_iret 0 (zNil) E) E
theorem xe_56_4 : xf_56_4 = zEx xb_56_4 := by
  unfold xf_56_4 xb_56_4
  rfl
theorem xc_56_4 : zCd 56 [0, 4, 45, 47, 53] 53 xb_56_4 := zc_iload_n xj_56 54 2 rfl rfl zf_ild_2 (zc_ireturn0 xj_56 55 rfl rfl (trivial))
noncomputable def xb_56_3 : List zF := [zq_incg zG3 zE3 1, zq_goto 4]
noncomputable def xf_56_3 : zE → zKn := fun E => zq_incg zG3 zE3 1 (zq_goto 4 (zNil) E) E
theorem xe_56_3 : xf_56_3 = zEx xb_56_3 := by
  unfold xf_56_3 xb_56_3
  rfl
theorem xc_56_3 : zCd 56 [0, 4, 45, 47, 53] 47 xb_56_3 := zc_iinc xj_56 50 3 1 1 rfl rfl rfl (zf_inc_3 _) (zc_goto xj_56 51 (-46) 4 rfl rfl rfl (trivial))
noncomputable def xb_56_2 : List zF := zq_ildg zG3 :: zq_istg zE2 :: xb_56_3
noncomputable def xf_56_2 : zE → zKn := fun E => zq_ildg zG3 (zq_istg zE2 (xf_56_3 E) E) E
theorem xe_56_2 : xf_56_2 = zEx xb_56_2 := by
  unfold xf_56_2 xb_56_2
  rw [xe_56_3]
  rfl
theorem xc_56_2 : zCd 56 [0, 4, 45, 47, 53] 45 xb_56_2 := zc_iload_n xj_56 46 3 rfl rfl zf_ild_3 (zc_istore_n xj_56 47 2 rfl rfl zf_ist_2 (xc_56_3))
noncomputable def xb_56_1 : List zF := zq_ildg zG3 :: zq_k 40 :: zq_ic_ge 53 :: zq_aldg zG0 :: zq_ildg zG1 :: zq_ildg zG3 :: zq_calli 36 2 1 3 :: zq_if_eq 47 :: zq_ildg zG2 :: zq_k 4294967295 :: zq_ic_eq 45 :: zq_aldg zG0 :: zq_getfg 1 zG0 :: zq_getfg 5 zG2 :: zq_ildg zG3 :: zq_ild_ 0 :: zq_aldg zG0 :: zq_getfg 1 zG0 :: zq_getfg 5 zG2 :: zq_ildg zG2 :: zq_ild_ 0 :: zq_ic_ge 47 :: xb_56_2
noncomputable def xf_56_1 : zE → zKn := fun E => zq_ildg zG3 (zq_k 40 (zq_ic_ge 53 (zq_aldg zG0 (zq_ildg zG1 (zq_ildg zG3 (zq_calli 36 2 1 3 (zq_if_eq 47 (zq_ildg zG2 (zq_k 4294967295 (zq_ic_eq 45 (zq_aldg zG0 (zq_getfg 1 zG0 (zq_getfg 5 zG2 (zq_ildg zG3 (zq_ild_ 0 (zq_aldg zG0 (zq_getfg 1 zG0 (zq_getfg 5 zG2 (zq_ildg zG2 (zq_ild_ 0 (zq_ic_ge 47 (xf_56_2 E) E) E) E) E) E) E) E) E) E) E) E) E) E) E) E) E) E) E) E) E) E) E
theorem xe_56_1 : xf_56_1 = zEx xb_56_1 := by
  unfold xf_56_1 xb_56_1
  rw [xe_56_2]
  rfl
theorem xc_56_1 : zCd 56 [0, 4, 45, 47, 53] 4 xb_56_1 := zc_iload_n xj_56 5 3 rfl rfl zf_ild_3 (zc_bipush xj_56 7 40 40 rfl rfl rfl (zc_ic_ge xj_56 10 46 53 rfl rfl rfl (zc_aload_n xj_56 11 0 rfl rfl zf_ald_0 (zc_iload_n xj_56 12 1 rfl rfl zf_ild_1 (zc_iload_n xj_56 13 3 rfl rfl zf_ild_3 (zc_invokevirtual1 xj_56 16 149 36 2 71 1 3 rfl rfl rfl rfl (zc_if_eq xj_56 19 31 47 rfl rfl rfl (zc_iload_n xj_56 20 2 rfl rfl zf_ild_2 (zc_iconst xj_56 21 (-1) 4294967295 rfl rfl rfl (zc_ic_eq xj_56 24 24 45 rfl rfl rfl (zc_aload_n xj_56 25 0 rfl rfl zf_ald_0 (zc_getf xj_56 28 12 1 0 24 rfl rfl (zf_getf_0 _) (zc_getf xj_56 31 93 5 2 7 rfl rfl (zf_getf_2 _) (zc_iload_n xj_56 32 3 rfl rfl zf_ild_3 (zc_iaload xj_56 33 rfl rfl (zc_aload_n xj_56 34 0 rfl rfl zf_ald_0 (zc_getf xj_56 37 12 1 0 24 rfl rfl (zf_getf_0 _) (zc_getf xj_56 40 93 5 2 7 rfl rfl (zf_getf_2 _) (zc_iload_n xj_56 41 2 rfl rfl zf_ild_2 (zc_iaload xj_56 42 rfl rfl (zc_ic_ge xj_56 45 5 47 rfl rfl rfl (xc_56_2))))))))))))))))))))))
noncomputable def xb_56_0 : List zF := zq_k 4294967295 :: zq_istg zE2 :: zq_k 0 :: zq_istg zE3 :: xb_56_1
noncomputable def xf_56_0 : zE → zKn := fun E => zq_k 4294967295 (zq_istg zE2 (zq_k 0 (zq_istg zE3 (xf_56_1 E) E) E) E) E
theorem xe_56_0 : xf_56_0 = zEx xb_56_0 := by
  unfold xf_56_0 xb_56_0
  rw [xe_56_1]
  rfl
theorem xc_56_0 : zCd 56 [0, 4, 45, 47, 53] 0 xb_56_0 := zc_iconst xj_56 1 (-1) 4294967295 rfl rfl rfl (zc_istore_n xj_56 2 2 rfl rfl zf_ist_2 (zc_iconst xj_56 3 0 0 rfl rfl rfl (zc_istore_n xj_56 4 3 rfl rfl zf_ist_3 (xc_56_1))))
noncomputable def xm_56 : Lean.RArray (zE → zKn) := .branch 45 (.branch 4 (.leaf xf_56_0) (.leaf xf_56_1)) (.branch 47 (.leaf xf_56_2) (.branch 53 (.leaf xf_56_3) (.leaf xf_56_4)))
theorem xa_56 : zCdAll 56 [0, 4, 45, 47, 53] xm_56 := zAll2_ok (P := fun t => ∃ c, zCd 56 [0, 4, 45, 47, 53] t c ∧ xm_56.get t = zEx c) ⟨⟨_, xc_56_0, xe_56_0⟩, ⟨_, xc_56_1, xe_56_1⟩, ⟨_, xc_56_2, xe_56_2⟩, ⟨_, xc_56_3, xe_56_3⟩, ⟨_, xc_56_4, xe_56_4⟩, trivial⟩
/-- SquareMesh$Passages.<init> -/
theorem xj_57 : ∀ pc, pI 57 pc = pJ_57 pc := fun _ => rfl
noncomputable def xb_57_0 : List zF := [zq_aldg zG0, zq_call0, zq_aldg zG0, zq_k 74, zq_newa 0, zq_putf 2 0 2, zq_aldg zG0, zq_k 74, zq_newa 0, zq_putf 2 2 2, zq_vret]
noncomputable def xf_57_0 : zE → zKn := fun E => zq_aldg zG0 (zq_call0 (zq_aldg zG0 (zq_k 74 (zq_newa 0 (zq_putf 2 0 2 (zq_aldg zG0 (zq_k 74 (zq_newa 0 (zq_putf 2 2 2 (zq_vret (zNil) E) E) E) E) E) E) E) E) E) E) E
theorem xe_57_0 : xf_57_0 = zEx xb_57_0 := by
  unfold xf_57_0 xb_57_0
  rfl
theorem xc_57_0 : zCd 57 [0] 0 xb_57_0 := zc_aload_n xj_57 1 0 rfl rfl zf_ald_0 (zc_invokespecial0 xj_57 4 3 0 0 13 0 0 rfl rfl (zc_aload_n xj_57 5 0 rfl rfl zf_ald_0 (zc_bipush xj_57 7 74 74 rfl rfl rfl (zc_any xj_57 9 (.newarray .int) [0] rfl rfl (zq_newa 0) rfl rfl (zc_putf xj_57 12 9 2 0 70 2 rfl rfl rfl (zc_aload_n xj_57 13 0 rfl rfl zf_ald_0 (zc_bipush xj_57 15 74 74 rfl rfl rfl (zc_any xj_57 17 (.newarray .int) [0] rfl rfl (zq_newa 0) rfl rfl (zc_putf xj_57 20 15 2 2 74 2 rfl rfl rfl (zc_return_ xj_57 21 rfl rfl (trivial)))))))))))
noncomputable def xm_57 : Lean.RArray (zE → zKn) := .leaf xf_57_0
theorem xa_57 : zCdAll 57 [0] xm_57 := zAll2_ok (P := fun t => ∃ c, zCd 57 [0] t c ∧ xm_57.get t = zEx c) ⟨⟨_, xc_57_0, xe_57_0⟩, trivial⟩
/-- SquareMesh$Passages.spread -/
theorem xj_58 : ∀ pc, pI 58 pc = pJ_58 pc := fun _ => rfl
noncomputable def xb_58_7 : List zF := [zq_vret]
noncomputable def xf_58_7 : zE → zKn := fun E => zq_vret (zNil) E
theorem xe_58_7 : xf_58_7 = zEx xb_58_7 := by
  unfold xf_58_7 xb_58_7
  rfl
theorem xc_58_7 : zCd 58 [0, 27, 52, 80, 81, 133, 139, 145] 145 xb_58_7 := zc_return_ xj_58 146 rfl rfl (trivial)
noncomputable def xb_58_6 : List zF := [zq_incg zG4 zE4 1, zq_goto 27]
noncomputable def xf_58_6 : zE → zKn := fun E => zq_incg zG4 zE4 1 (zq_goto 27 (zNil) E) E
theorem xe_58_6 : xf_58_6 = zEx xb_58_6 := by
  unfold xf_58_6 xb_58_6
  rfl
theorem xc_58_6 : zCd 58 [0, 27, 52, 80, 81, 133, 139, 145] 139 xb_58_6 := zc_iinc xj_58 142 4 1 1 rfl rfl rfl (zf_inc_4 _) (zc_goto xj_58 143 (-115) 27 rfl rfl rfl (trivial))
noncomputable def xb_58_5 : List zF := [zq_incg zG6 zE6 1, zq_goto 52]
noncomputable def xf_58_5 : zE → zKn := fun E => zq_incg zG6 zE6 1 (zq_goto 52 (zNil) E) E
theorem xe_58_5 : xf_58_5 = zEx xb_58_5 := by
  unfold xf_58_5 xb_58_5
  rfl
theorem xc_58_5 : zCd 58 [0, 27, 52, 80, 81, 133, 139, 145] 133 xb_58_5 := zc_iinc xj_58 136 6 1 1 rfl rfl rfl (zf_inc_6 _) (zc_goto xj_58 137 (-84) 52 rfl rfl rfl (trivial))
noncomputable def xb_58_4 : List zF := zq_istg zE7 :: zq_ildg zG7 :: zq_k 4294967295 :: zq_ic_eq 133 :: zq_aldg zG0 :: zq_getfg 2 zG0 :: zq_ildg zG7 :: zq_ild_ 0 :: zq_k 4294967295 :: zq_ic_ne 133 :: zq_ildg zG3 :: zq_k 74 :: zq_ic_ge 133 :: zq_aldg zG0 :: zq_getfg 2 zG0 :: zq_ildg zG7 :: zq_aldg zG0 :: zq_getfg 2 zG0 :: zq_ildg zG5 :: zq_ild_ 0 :: zq_k 1 :: zq_add :: zq_iast :: zq_aldg zG0 :: zq_getfg 2 zG2 :: zq_ildg zG3 :: zq_ildg zG7 :: zq_iast :: zq_incg zG3 zE3 1 :: xb_58_5
noncomputable def xf_58_4 : zE → zKn := fun E => zq_istg zE7 (zq_ildg zG7 (zq_k 4294967295 (zq_ic_eq 133 (zq_aldg zG0 (zq_getfg 2 zG0 (zq_ildg zG7 (zq_ild_ 0 (zq_k 4294967295 (zq_ic_ne 133 (zq_ildg zG3 (zq_k 74 (zq_ic_ge 133 (zq_aldg zG0 (zq_getfg 2 zG0 (zq_ildg zG7 (zq_aldg zG0 (zq_getfg 2 zG0 (zq_ildg zG5 (zq_ild_ 0 (zq_k 1 (zq_add (zq_iast (zq_aldg zG0 (zq_getfg 2 zG2 (zq_ildg zG3 (zq_ildg zG7 (zq_iast (zq_incg zG3 zE3 1 (xf_58_5 E) E) E) E) E) E) E) E) E) E) E) E) E) E) E) E) E) E) E) E) E) E) E) E) E) E) E) E) E) E
theorem xe_58_4 : xf_58_4 = zEx xb_58_4 := by
  unfold xf_58_4 xb_58_4
  rw [xe_58_5]
  rfl
theorem xc_58_4 : zCd 58 [0, 27, 52, 80, 81, 133, 139, 145] 81 xb_58_4 := zc_istore xj_58 83 7 rfl rfl zf_ist_7 (zc_iload xj_58 85 7 rfl rfl zf_ild_7 (zc_iconst xj_58 86 (-1) 4294967295 rfl rfl rfl (zc_ic_eq xj_58 89 47 133 rfl rfl rfl (zc_aload_n xj_58 90 0 rfl rfl zf_ald_0 (zc_getf xj_58 93 9 2 0 70 rfl rfl (zf_getf_0 _) (zc_iload xj_58 95 7 rfl rfl zf_ild_7 (zc_iaload xj_58 96 rfl rfl (zc_iconst xj_58 97 (-1) 4294967295 rfl rfl rfl (zc_ic_ne xj_58 100 36 133 rfl rfl rfl (zc_iload_n xj_58 101 3 rfl rfl zf_ild_3 (zc_bipush xj_58 103 74 74 rfl rfl rfl (zc_ic_ge xj_58 106 30 133 rfl rfl rfl (zc_aload_n xj_58 107 0 rfl rfl zf_ald_0 (zc_getf xj_58 110 9 2 0 70 rfl rfl (zf_getf_0 _) (zc_iload xj_58 112 7 rfl rfl zf_ild_7 (zc_aload_n xj_58 113 0 rfl rfl zf_ald_0 (zc_getf xj_58 116 9 2 0 70 rfl rfl (zf_getf_0 _) (zc_iload xj_58 118 5 rfl rfl zf_ild_5 (zc_iaload xj_58 119 rfl rfl (zc_iconst xj_58 120 1 1 rfl rfl rfl (zc_iadd xj_58 121 rfl rfl (zc_iastore xj_58 122 rfl rfl (zc_aload_n xj_58 123 0 rfl rfl zf_ald_0 (zc_getf xj_58 126 15 2 2 74 rfl rfl (zf_getf_2 _) (zc_iload_n xj_58 127 3 rfl rfl zf_ild_3 (zc_iload xj_58 129 7 rfl rfl zf_ild_7 (zc_iastore xj_58 130 rfl rfl (zc_iinc xj_58 133 3 1 1 rfl rfl rfl (zf_inc_3 _) (xc_58_5)))))))))))))))))))))))))))))
noncomputable def xb_58_3 : List zF := zq_k 4294967295 :: xb_58_4
noncomputable def xf_58_3 : zE → zKn := fun E => zq_k 4294967295 (xf_58_4 E) E
theorem xe_58_3 : xf_58_3 = zEx xb_58_3 := by
  unfold xf_58_3 xb_58_3
  rw [xe_58_4]
  rfl
theorem xc_58_3 : zCd 58 [0, 27, 52, 80, 81, 133, 139, 145] 80 xb_58_3 := zc_iconst xj_58 81 (-1) 4294967295 rfl rfl rfl (xc_58_4)
noncomputable def xb_58_2 : List zF := [zq_ildg zG6, zq_k 3, zq_ic_ge 139, zq_aldg zG1, zq_ildg zG5, zq_ildg zG6, zq_calli 38 2 1 3, zq_if_eq 80, zq_aldg zG1, zq_ildg zG5, zq_ildg zG6, zq_calli 37 2 1 4, zq_goto 81]
noncomputable def xf_58_2 : zE → zKn := fun E => zq_ildg zG6 (zq_k 3 (zq_ic_ge 139 (zq_aldg zG1 (zq_ildg zG5 (zq_ildg zG6 (zq_calli 38 2 1 3 (zq_if_eq 80 (zq_aldg zG1 (zq_ildg zG5 (zq_ildg zG6 (zq_calli 37 2 1 4 (zq_goto 81 (zNil) E) E) E) E) E) E) E) E) E) E) E) E) E
theorem xe_58_2 : xf_58_2 = zEx xb_58_2 := by
  unfold xf_58_2 xb_58_2
  rfl
theorem xc_58_2 : zCd 58 [0, 27, 52, 80, 81, 133, 139, 145] 52 xb_58_2 := zc_iload xj_58 54 6 rfl rfl zf_ild_6 (zc_iconst xj_58 55 3 3 rfl rfl rfl (zc_ic_ge xj_58 58 84 139 rfl rfl rfl (zc_aload_n xj_58 59 1 rfl rfl zf_ald_1 (zc_iload xj_58 61 5 rfl rfl zf_ild_5 (zc_iload xj_58 63 6 rfl rfl zf_ild_6 (zc_invokevirtual1 xj_58 66 24 38 2 232 1 3 rfl rfl rfl rfl (zc_if_eq xj_58 69 14 80 rfl rfl rfl (zc_aload_n xj_58 70 1 rfl rfl zf_ald_1 (zc_iload xj_58 72 5 rfl rfl zf_ild_5 (zc_iload xj_58 74 6 rfl rfl zf_ild_6 (zc_invokevirtual1 xj_58 77 30 37 2 171 1 4 rfl rfl rfl rfl (zc_goto xj_58 78 4 81 rfl rfl rfl (trivial)))))))))))))
noncomputable def xb_58_1 : List zF := zq_ildg zG4 :: zq_ildg zG3 :: zq_ic_ge 145 :: zq_ildg zG4 :: zq_k 74 :: zq_ic_ge 145 :: zq_aldg zG0 :: zq_getfg 2 zG2 :: zq_ildg zG4 :: zq_ild_ 0 :: zq_istg zE5 :: zq_k 0 :: zq_istg zE6 :: xb_58_2
noncomputable def xf_58_1 : zE → zKn := fun E => zq_ildg zG4 (zq_ildg zG3 (zq_ic_ge 145 (zq_ildg zG4 (zq_k 74 (zq_ic_ge 145 (zq_aldg zG0 (zq_getfg 2 zG2 (zq_ildg zG4 (zq_ild_ 0 (zq_istg zE5 (zq_k 0 (zq_istg zE6 (xf_58_2 E) E) E) E) E) E) E) E) E) E) E) E) E) E
theorem xe_58_1 : xf_58_1 = zEx xb_58_1 := by
  unfold xf_58_1 xb_58_1
  rw [xe_58_2]
  rfl
theorem xc_58_1 : zCd 58 [0, 27, 52, 80, 81, 133, 139, 145] 27 xb_58_1 := zc_iload xj_58 29 4 rfl rfl zf_ild_4 (zc_iload_n xj_58 30 3 rfl rfl zf_ild_3 (zc_ic_ge xj_58 33 115 145 rfl rfl rfl (zc_iload xj_58 35 4 rfl rfl zf_ild_4 (zc_bipush xj_58 37 74 74 rfl rfl rfl (zc_ic_ge xj_58 40 108 145 rfl rfl rfl (zc_aload_n xj_58 41 0 rfl rfl zf_ald_0 (zc_getf xj_58 44 15 2 2 74 rfl rfl (zf_getf_2 _) (zc_iload xj_58 46 4 rfl rfl zf_ild_4 (zc_iaload xj_58 47 rfl rfl (zc_istore xj_58 49 5 rfl rfl zf_ist_5 (zc_iconst xj_58 50 0 0 rfl rfl rfl (zc_istore xj_58 52 6 rfl rfl zf_ist_6 (xc_58_2)))))))))))))
noncomputable def xb_58_0 : List zF := zq_aldg zG0 :: zq_getfg 2 zG0 :: zq_k 4294967295 :: zq_fill :: zq_aldg zG0 :: zq_getfg 2 zG0 :: zq_ildg zG2 :: zq_k 0 :: zq_iast :: zq_aldg zG0 :: zq_getfg 2 zG2 :: zq_k 0 :: zq_ildg zG2 :: zq_iast :: zq_k 1 :: zq_istg zE3 :: zq_k 0 :: zq_istg zE4 :: xb_58_1
noncomputable def xf_58_0 : zE → zKn := fun E => zq_aldg zG0 (zq_getfg 2 zG0 (zq_k 4294967295 (zq_fill (zq_aldg zG0 (zq_getfg 2 zG0 (zq_ildg zG2 (zq_k 0 (zq_iast (zq_aldg zG0 (zq_getfg 2 zG2 (zq_k 0 (zq_ildg zG2 (zq_iast (zq_k 1 (zq_istg zE3 (zq_k 0 (zq_istg zE4 (xf_58_1 E) E) E) E) E) E) E) E) E) E) E) E) E) E) E) E) E) E) E
theorem xe_58_0 : xf_58_0 = zEx xb_58_0 := by
  unfold xf_58_0 xb_58_0
  rw [xe_58_1]
  rfl
theorem xc_58_0 : zCd 58 [0, 27, 52, 80, 81, 133, 139, 145] 0 xb_58_0 := zc_aload_n xj_58 1 0 rfl rfl zf_ald_0 (zc_getf xj_58 4 9 2 0 70 rfl rfl (zf_getf_0 _) (zc_iconst xj_58 5 (-1) 4294967295 rfl rfl rfl (zc_any xj_58 8 (.invokestatic 18) [2, 356, 2, 169, 0, 4] rfl rfl (zq_fill) rfl rfl (zc_aload_n xj_58 9 0 rfl rfl zf_ald_0 (zc_getf xj_58 12 9 2 0 70 rfl rfl (zf_getf_0 _) (zc_iload_n xj_58 13 2 rfl rfl zf_ild_2 (zc_iconst xj_58 14 0 0 rfl rfl rfl (zc_iastore xj_58 15 rfl rfl (zc_aload_n xj_58 16 0 rfl rfl zf_ald_0 (zc_getf xj_58 19 15 2 2 74 rfl rfl (zf_getf_2 _) (zc_iconst xj_58 20 0 0 rfl rfl rfl (zc_iload_n xj_58 21 2 rfl rfl zf_ild_2 (zc_iastore xj_58 22 rfl rfl (zc_iconst xj_58 23 1 1 rfl rfl rfl (zc_istore_n xj_58 24 3 rfl rfl zf_ist_3 (zc_iconst xj_58 25 0 0 rfl rfl rfl (zc_istore xj_58 27 4 rfl rfl zf_ist_4 (xc_58_1))))))))))))))))))
noncomputable def xm_58 : Lean.RArray (zE → zKn) := .branch 81 (.branch 52 (.branch 27 (.leaf xf_58_0) (.leaf xf_58_1)) (.branch 80 (.leaf xf_58_2) (.leaf xf_58_3))) (.branch 139 (.branch 133 (.leaf xf_58_4) (.leaf xf_58_5)) (.branch 145 (.leaf xf_58_6) (.leaf xf_58_7)))
theorem xa_58 : zCdAll 58 [0, 27, 52, 80, 81, 133, 139, 145] xm_58 := zAll2_ok (P := fun t => ∃ c, zCd 58 [0, 27, 52, 80, 81, 133, 139, 145] t c ∧ xm_58.get t = zEx c) ⟨⟨_, xc_58_0, xe_58_0⟩, ⟨_, xc_58_1, xe_58_1⟩, ⟨_, xc_58_2, xe_58_2⟩, ⟨_, xc_58_3, xe_58_3⟩, ⟨_, xc_58_4, xe_58_4⟩, ⟨_, xc_58_5, xe_58_5⟩, ⟨_, xc_58_6, xe_58_6⟩, ⟨_, xc_58_7, xe_58_7⟩, trivial⟩
/-- SquareMesh$Passages.follow -/
theorem xj_59 : ∀ pc, pI 59 pc = pJ_59 pc := fun _ => rfl
noncomputable def xb_59_4 : List zF := [zq_ildg zG4, zq_iret 0]
noncomputable def xf_59_4 : zE → zKn := fun E => zq_ildg zG4 (zq_iret 0 (zNil) E) E
theorem xe_59_4 : xf_59_4 = zEx xb_59_4 := by
  unfold xf_59_4 xb_59_4
  rfl
theorem xc_59_4 : zCd 59 [0, 24, 26, 32, 59] 59 xb_59_4 := zc_iload xj_59 61 4 rfl rfl zf_ild_4 (zc_ireturn0 xj_59 62 rfl rfl (trivial))
noncomputable def xb_59_3 : List zF := [zq_ildg zG5, zq_ildg zG3, zq_ic_ge 59, zq_ildg zG4, zq_k 4294967295, zq_ic_eq 59, zq_aldg zG0, zq_aldg zG1, zq_ildg zG4, zq_calli 60 2 2 6, zq_istg zE4, zq_incg zG5 zE5 1, zq_goto 32]
noncomputable def xf_59_3 : zE → zKn := fun E => zq_ildg zG5 (zq_ildg zG3 (zq_ic_ge 59 (zq_ildg zG4 (zq_k 4294967295 (zq_ic_eq 59 (zq_aldg zG0 (zq_aldg zG1 (zq_ildg zG4 (zq_calli 60 2 2 6 (zq_istg zE4 (zq_incg zG5 zE5 1 (zq_goto 32 (zNil) E) E) E) E) E) E) E) E) E) E) E) E) E
theorem xe_59_3 : xf_59_3 = zEx xb_59_3 := by
  unfold xf_59_3 xb_59_3
  rfl
theorem xc_59_3 : zCd 59 [0, 24, 26, 32, 59] 32 xb_59_3 := zc_iload xj_59 34 5 rfl rfl zf_ild_5 (zc_iload_n xj_59 35 3 rfl rfl zf_ild_3 (zc_ic_ge xj_59 38 24 59 rfl rfl rfl (zc_iload xj_59 40 4 rfl rfl zf_ild_4 (zc_iconst xj_59 41 (-1) 4294967295 rfl rfl rfl (zc_ic_eq xj_59 44 18 59 rfl rfl rfl (zc_aload_n xj_59 45 0 rfl rfl zf_ald_0 (zc_aload_n xj_59 46 1 rfl rfl zf_ald_1 (zc_iload xj_59 48 4 rfl rfl zf_ild_4 (zc_invokevirtual1 xj_59 51 34 60 2 234 2 6 rfl rfl rfl rfl (zc_istore xj_59 53 4 rfl rfl zf_ist_4 (zc_iinc xj_59 56 5 1 1 rfl rfl rfl (zf_inc_5 _) (zc_goto xj_59 57 (-24) 32 rfl rfl rfl (trivial)))))))))))))
noncomputable def xb_59_2 : List zF := zq_ildg zG2 :: zq_istg zE4 :: zq_k 0 :: zq_istg zE5 :: xb_59_3
noncomputable def xf_59_2 : zE → zKn := fun E => zq_ildg zG2 (zq_istg zE4 (zq_k 0 (zq_istg zE5 (xf_59_3 E) E) E) E) E
theorem xe_59_2 : xf_59_2 = zEx xb_59_2 := by
  unfold xf_59_2 xb_59_2
  rw [xe_59_3]
  rfl
theorem xc_59_2 : zCd 59 [0, 24, 26, 32, 59] 26 xb_59_2 := zc_iload_n xj_59 27 2 rfl rfl zf_ild_2 (zc_istore xj_59 29 4 rfl rfl zf_ist_4 (zc_iconst xj_59 30 0 0 rfl rfl rfl (zc_istore xj_59 32 5 rfl rfl zf_ist_5 (xc_59_3))))
noncomputable def xb_59_1 : List zF := [zq_k 4294967295, zq_iret 0]
noncomputable def xf_59_1 : zE → zKn := fun E => zq_k 4294967295 (zq_iret 0 (zNil) E) E
theorem xe_59_1 : xf_59_1 = zEx xb_59_1 := by
  unfold xf_59_1 xb_59_1
  rfl
theorem xc_59_1 : zCd 59 [0, 24, 26, 32, 59] 24 xb_59_1 := zc_iconst xj_59 25 (-1) 4294967295 rfl rfl rfl (zc_ireturn0 xj_59 26 rfl rfl (trivial))
noncomputable def xb_59_0 : List zF := zq_ildg zG3 :: zq_if_lt 24 :: zq_aldg zG0 :: zq_getfg 2 zG0 :: zq_ildg zG2 :: zq_ild_ 0 :: zq_k 4294967295 :: zq_ic_eq 24 :: zq_ildg zG3 :: zq_aldg zG0 :: zq_getfg 2 zG0 :: zq_ildg zG2 :: zq_ild_ 0 :: zq_ic_le 26 :: xb_59_1
noncomputable def xf_59_0 : zE → zKn := fun E => zq_ildg zG3 (zq_if_lt 24 (zq_aldg zG0 (zq_getfg 2 zG0 (zq_ildg zG2 (zq_ild_ 0 (zq_k 4294967295 (zq_ic_eq 24 (zq_ildg zG3 (zq_aldg zG0 (zq_getfg 2 zG0 (zq_ildg zG2 (zq_ild_ 0 (zq_ic_le 26 (xf_59_1 E) E) E) E) E) E) E) E) E) E) E) E) E) E) E
theorem xe_59_0 : xf_59_0 = zEx xb_59_0 := by
  unfold xf_59_0 xb_59_0
  rw [xe_59_1]
  rfl
theorem xc_59_0 : zCd 59 [0, 24, 26, 32, 59] 0 xb_59_0 := zc_iload_n xj_59 1 3 rfl rfl zf_ild_3 (zc_if_lt xj_59 4 23 24 rfl rfl rfl (zc_aload_n xj_59 5 0 rfl rfl zf_ald_0 (zc_getf xj_59 8 9 2 0 70 rfl rfl (zf_getf_0 _) (zc_iload_n xj_59 9 2 rfl rfl zf_ild_2 (zc_iaload xj_59 10 rfl rfl (zc_iconst xj_59 11 (-1) 4294967295 rfl rfl rfl (zc_ic_eq xj_59 14 13 24 rfl rfl rfl (zc_iload_n xj_59 15 3 rfl rfl zf_ild_3 (zc_aload_n xj_59 16 0 rfl rfl zf_ald_0 (zc_getf xj_59 19 9 2 0 70 rfl rfl (zf_getf_0 _) (zc_iload_n xj_59 20 2 rfl rfl zf_ild_2 (zc_iaload xj_59 21 rfl rfl (zc_ic_le xj_59 24 5 26 rfl rfl rfl (xc_59_1))))))))))))))
noncomputable def xm_59 : Lean.RArray (zE → zKn) := .branch 26 (.branch 24 (.leaf xf_59_0) (.leaf xf_59_1)) (.branch 32 (.leaf xf_59_2) (.branch 59 (.leaf xf_59_3) (.leaf xf_59_4)))
theorem xa_59 : zCdAll 59 [0, 24, 26, 32, 59] xm_59 := zAll2_ok (P := fun t => ∃ c, zCd 59 [0, 24, 26, 32, 59] t c ∧ xm_59.get t = zEx c) ⟨⟨_, xc_59_0, xe_59_0⟩, ⟨_, xc_59_1, xe_59_1⟩, ⟨_, xc_59_2, xe_59_2⟩, ⟨_, xc_59_3, xe_59_3⟩, ⟨_, xc_59_4, xe_59_4⟩, trivial⟩
/-- SquareMesh$Passages.nextOn -/
theorem xj_60 : ∀ pc, pI 60 pc = pJ_60 pc := fun _ => rfl
noncomputable def xb_60_6 : List zF := [zq_ildg zG3, zq_iret 0]
noncomputable def xf_60_6 : zE → zKn := fun E => zq_ildg zG3 (zq_iret 0 (zNil) E) E
theorem xe_60_6 : xf_60_6 = zEx xb_60_6 := by
  unfold xf_60_6 xb_60_6
  rfl
theorem xc_60_6 : zCd 60 [0, 5, 31, 32, 69, 72, 78] 78 xb_60_6 := zc_iload_n xj_60 79 3 rfl rfl zf_ild_3 (zc_ireturn0 xj_60 80 rfl rfl (trivial))
noncomputable def xb_60_5 : List zF := [zq_incg zG4 zE4 1, zq_goto 5]
noncomputable def xf_60_5 : zE → zKn := fun E => zq_incg zG4 zE4 1 (zq_goto 5 (zNil) E) E
theorem xe_60_5 : xf_60_5 = zEx xb_60_5 := by
  unfold xf_60_5 xb_60_5
  rfl
theorem xc_60_5 : zCd 60 [0, 5, 31, 32, 69, 72, 78] 72 xb_60_5 := zc_iinc xj_60 75 4 1 1 rfl rfl rfl (zf_inc_4 _) (zc_goto xj_60 76 (-70) 5 rfl rfl rfl (trivial))
noncomputable def xb_60_4 : List zF := zq_ildg zG5 :: zq_istg zE3 :: xb_60_5
noncomputable def xf_60_4 : zE → zKn := fun E => zq_ildg zG5 (zq_istg zE3 (xf_60_5 E) E) E
theorem xe_60_4 : xf_60_4 = zEx xb_60_4 := by
  unfold xf_60_4 xb_60_4
  rw [xe_60_5]
  rfl
theorem xc_60_4 : zCd 60 [0, 5, 31, 32, 69, 72, 78] 69 xb_60_4 := zc_iload xj_60 71 5 rfl rfl zf_ild_5 (zc_istore_n xj_60 72 3 rfl rfl zf_ist_3 (xc_60_5))
noncomputable def xb_60_3 : List zF := zq_istg zE5 :: zq_ildg zG5 :: zq_k 4294967295 :: zq_ic_eq 72 :: zq_aldg zG0 :: zq_getfg 2 zG0 :: zq_ildg zG5 :: zq_ild_ 0 :: zq_aldg zG0 :: zq_getfg 2 zG0 :: zq_ildg zG2 :: zq_ild_ 0 :: zq_k 1 :: zq_sub :: zq_ic_ne 72 :: zq_ildg zG3 :: zq_k 4294967295 :: zq_ic_eq 69 :: zq_ildg zG5 :: zq_ildg zG3 :: zq_ic_ge 72 :: xb_60_4
noncomputable def xf_60_3 : zE → zKn := fun E => zq_istg zE5 (zq_ildg zG5 (zq_k 4294967295 (zq_ic_eq 72 (zq_aldg zG0 (zq_getfg 2 zG0 (zq_ildg zG5 (zq_ild_ 0 (zq_aldg zG0 (zq_getfg 2 zG0 (zq_ildg zG2 (zq_ild_ 0 (zq_k 1 (zq_sub (zq_ic_ne 72 (zq_ildg zG3 (zq_k 4294967295 (zq_ic_eq 69 (zq_ildg zG5 (zq_ildg zG3 (zq_ic_ge 72 (xf_60_4 E) E) E) E) E) E) E) E) E) E) E) E) E) E) E) E) E) E) E) E) E) E
theorem xe_60_3 : xf_60_3 = zEx xb_60_3 := by
  unfold xf_60_3 xb_60_3
  rw [xe_60_4]
  rfl
theorem xc_60_3 : zCd 60 [0, 5, 31, 32, 69, 72, 78] 32 xb_60_3 := zc_istore xj_60 34 5 rfl rfl zf_ist_5 (zc_iload xj_60 36 5 rfl rfl zf_ild_5 (zc_iconst xj_60 37 (-1) 4294967295 rfl rfl rfl (zc_ic_eq xj_60 40 35 72 rfl rfl rfl (zc_aload_n xj_60 41 0 rfl rfl zf_ald_0 (zc_getf xj_60 44 9 2 0 70 rfl rfl (zf_getf_0 _) (zc_iload xj_60 46 5 rfl rfl zf_ild_5 (zc_iaload xj_60 47 rfl rfl (zc_aload_n xj_60 48 0 rfl rfl zf_ald_0 (zc_getf xj_60 51 9 2 0 70 rfl rfl (zf_getf_0 _) (zc_iload_n xj_60 52 2 rfl rfl zf_ild_2 (zc_iaload xj_60 53 rfl rfl (zc_iconst xj_60 54 1 1 rfl rfl rfl (zc_isub xj_60 55 rfl rfl (zc_ic_ne xj_60 58 17 72 rfl rfl rfl (zc_iload_n xj_60 59 3 rfl rfl zf_ild_3 (zc_iconst xj_60 60 (-1) 4294967295 rfl rfl rfl (zc_ic_eq xj_60 63 9 69 rfl rfl rfl (zc_iload xj_60 65 5 rfl rfl zf_ild_5 (zc_iload_n xj_60 66 3 rfl rfl zf_ild_3 (zc_ic_ge xj_60 69 6 72 rfl rfl rfl (xc_60_4)))))))))))))))))))))
noncomputable def xb_60_2 : List zF := zq_k 4294967295 :: xb_60_3
noncomputable def xf_60_2 : zE → zKn := fun E => zq_k 4294967295 (xf_60_3 E) E
theorem xe_60_2 : xf_60_2 = zEx xb_60_2 := by
  unfold xf_60_2 xb_60_2
  rw [xe_60_3]
  rfl
theorem xc_60_2 : zCd 60 [0, 5, 31, 32, 69, 72, 78] 31 xb_60_2 := zc_iconst xj_60 32 (-1) 4294967295 rfl rfl rfl (xc_60_3)
noncomputable def xb_60_1 : List zF := [zq_ildg zG4, zq_k 3, zq_ic_ge 78, zq_aldg zG1, zq_ildg zG2, zq_ildg zG4, zq_calli 38 2 1 3, zq_if_eq 31, zq_aldg zG1, zq_ildg zG2, zq_ildg zG4, zq_calli 37 2 1 4, zq_goto 32]
noncomputable def xf_60_1 : zE → zKn := fun E => zq_ildg zG4 (zq_k 3 (zq_ic_ge 78 (zq_aldg zG1 (zq_ildg zG2 (zq_ildg zG4 (zq_calli 38 2 1 3 (zq_if_eq 31 (zq_aldg zG1 (zq_ildg zG2 (zq_ildg zG4 (zq_calli 37 2 1 4 (zq_goto 32 (zNil) E) E) E) E) E) E) E) E) E) E) E) E) E
theorem xe_60_1 : xf_60_1 = zEx xb_60_1 := by
  unfold xf_60_1 xb_60_1
  rfl
theorem xc_60_1 : zCd 60 [0, 5, 31, 32, 69, 72, 78] 5 xb_60_1 := zc_iload xj_60 7 4 rfl rfl zf_ild_4 (zc_iconst xj_60 8 3 3 rfl rfl rfl (zc_ic_ge xj_60 11 70 78 rfl rfl rfl (zc_aload_n xj_60 12 1 rfl rfl zf_ald_1 (zc_iload_n xj_60 13 2 rfl rfl zf_ild_2 (zc_iload xj_60 15 4 rfl rfl zf_ild_4 (zc_invokevirtual1 xj_60 18 24 38 2 232 1 3 rfl rfl rfl rfl (zc_if_eq xj_60 21 13 31 rfl rfl rfl (zc_aload_n xj_60 22 1 rfl rfl zf_ald_1 (zc_iload_n xj_60 23 2 rfl rfl zf_ild_2 (zc_iload xj_60 25 4 rfl rfl zf_ild_4 (zc_invokevirtual1 xj_60 28 30 37 2 171 1 4 rfl rfl rfl rfl (zc_goto xj_60 29 4 32 rfl rfl rfl (trivial)))))))))))))
noncomputable def xb_60_0 : List zF := zq_k 4294967295 :: zq_istg zE3 :: zq_k 0 :: zq_istg zE4 :: xb_60_1
noncomputable def xf_60_0 : zE → zKn := fun E => zq_k 4294967295 (zq_istg zE3 (zq_k 0 (zq_istg zE4 (xf_60_1 E) E) E) E) E
theorem xe_60_0 : xf_60_0 = zEx xb_60_0 := by
  unfold xf_60_0 xb_60_0
  rw [xe_60_1]
  rfl
theorem xc_60_0 : zCd 60 [0, 5, 31, 32, 69, 72, 78] 0 xb_60_0 := zc_iconst xj_60 1 (-1) 4294967295 rfl rfl rfl (zc_istore_n xj_60 2 3 rfl rfl zf_ist_3 (zc_iconst xj_60 3 0 0 rfl rfl rfl (zc_istore xj_60 5 4 rfl rfl zf_ist_4 (xc_60_1))))
noncomputable def xm_60 : Lean.RArray (zE → zKn) := .branch 32 (.branch 5 (.leaf xf_60_0) (.branch 31 (.leaf xf_60_1) (.leaf xf_60_2))) (.branch 72 (.branch 69 (.leaf xf_60_3) (.leaf xf_60_4)) (.branch 78 (.leaf xf_60_5) (.leaf xf_60_6)))
theorem xa_60 : zCdAll 60 [0, 5, 31, 32, 69, 72, 78] xm_60 := zAll2_ok (P := fun t => ∃ c, zCd 60 [0, 5, 31, 32, 69, 72, 78] t c ∧ xm_60.get t = zEx c) ⟨⟨_, xc_60_0, xe_60_0⟩, ⟨_, xc_60_1, xe_60_1⟩, ⟨_, xc_60_2, xe_60_2⟩, ⟨_, xc_60_3, xe_60_3⟩, ⟨_, xc_60_4, xe_60_4⟩, ⟨_, xc_60_5, xe_60_5⟩, ⟨_, xc_60_6, xe_60_6⟩, trivial⟩
/-- SquareMesh$Passages.walkTo -/
theorem xj_61 : ∀ pc, pI 61 pc = pJ_61 pc := fun _ => rfl
noncomputable def xb_61_3 : List zF := [zq_ildg zG5, zq_iret 0]
noncomputable def xf_61_3 : zE → zKn := fun E => zq_ildg zG5 (zq_iret 0 (zNil) E) E
theorem xe_61_3 : xf_61_3 = zEx xb_61_3 := by
  unfold xf_61_3 xb_61_3
  rfl
theorem xc_61_3 : zCd 61 [0, 29, 55, 81] 81 xb_61_3 := zc_iload xj_61 83 5 rfl rfl zf_ild_5 (zc_ireturn0 xj_61 84 rfl rfl (trivial))
noncomputable def xb_61_2 : List zF := [zq_aldg zG0, zq_ildg zG7, zq_putf 2 1 0, zq_incg zG5 zE5 1, zq_aldg zG0, zq_getfg 2 zG0, zq_aldg zG0, zq_getfg 2 zG1, zq_ildg zG5, zq_iast, zq_incg zG6 zE6 1, zq_goto 29]
noncomputable def xf_61_2 : zE → zKn := fun E => zq_aldg zG0 (zq_ildg zG7 (zq_putf 2 1 0 (zq_incg zG5 zE5 1 (zq_aldg zG0 (zq_getfg 2 zG0 (zq_aldg zG0 (zq_getfg 2 zG1 (zq_ildg zG5 (zq_iast (zq_incg zG6 zE6 1 (zq_goto 29 (zNil) E) E) E) E) E) E) E) E) E) E) E) E
theorem xe_61_2 : xf_61_2 = zEx xb_61_2 := by
  unfold xf_61_2 xb_61_2
  rfl
theorem xc_61_2 : zCd 61 [0, 29, 55, 81] 55 xb_61_2 := zc_aload_n xj_61 56 0 rfl rfl zf_ald_0 (zc_iload xj_61 58 7 rfl rfl zf_ild_7 (zc_putf xj_61 61 38 2 1 72 0 rfl rfl rfl (zc_iinc xj_61 64 5 1 1 rfl rfl rfl (zf_inc_5 _) (zc_aload_n xj_61 65 0 rfl rfl zf_ald_0 (zc_getf xj_61 68 9 2 0 70 rfl rfl (zf_getf_0 _) (zc_aload_n xj_61 69 0 rfl rfl zf_ald_0 (zc_getf xj_61 72 38 2 1 72 rfl rfl (zf_getf_1 _) (zc_iload xj_61 74 5 rfl rfl zf_ild_5 (zc_iastore xj_61 75 rfl rfl (zc_iinc xj_61 78 6 1 1 rfl rfl rfl (zf_inc_6 _) (zc_goto xj_61 79 (-49) 29 rfl rfl rfl (trivial))))))))))))
noncomputable def xb_61_1 : List zF := [zq_ildg zG6, zq_k 74, zq_ic_ge 81, zq_aldg zG0, zq_aldg zG1, zq_ildg zG3, zq_ildg zG4, zq_calli 62 3 2 6, zq_istg zE7, zq_ildg zG7, zq_k 4294967295, zq_ic_ne 55, zq_goto 81]
noncomputable def xf_61_1 : zE → zKn := fun E => zq_ildg zG6 (zq_k 74 (zq_ic_ge 81 (zq_aldg zG0 (zq_aldg zG1 (zq_ildg zG3 (zq_ildg zG4 (zq_calli 62 3 2 6 (zq_istg zE7 (zq_ildg zG7 (zq_k 4294967295 (zq_ic_ne 55 (zq_goto 81 (zNil) E) E) E) E) E) E) E) E) E) E) E) E) E
theorem xe_61_1 : xf_61_1 = zEx xb_61_1 := by
  unfold xf_61_1 xb_61_1
  rfl
theorem xc_61_1 : zCd 61 [0, 29, 55, 81] 29 xb_61_1 := zc_iload xj_61 31 6 rfl rfl zf_ild_6 (zc_bipush xj_61 33 74 74 rfl rfl rfl (zc_ic_ge xj_61 36 48 81 rfl rfl rfl (zc_aload_n xj_61 37 0 rfl rfl zf_ald_0 (zc_aload_n xj_61 38 1 rfl rfl zf_ald_1 (zc_iload_n xj_61 39 3 rfl rfl zf_ild_3 (zc_iload xj_61 41 4 rfl rfl zf_ild_4 (zc_invokevirtual1 xj_61 44 42 62 3 170 2 6 rfl rfl rfl rfl (zc_istore xj_61 46 7 rfl rfl zf_ist_7 (zc_iload xj_61 48 7 rfl rfl zf_ild_7 (zc_iconst xj_61 49 (-1) 4294967295 rfl rfl rfl (zc_ic_ne xj_61 52 6 55 rfl rfl rfl (zc_goto xj_61 53 29 81 rfl rfl rfl (trivial)))))))))))))
noncomputable def xb_61_0 : List zF := zq_aldg zG0 :: zq_getfg 2 zG0 :: zq_k 4294967295 :: zq_fill :: zq_aldg zG0 :: zq_ildg zG2 :: zq_putf 2 1 0 :: zq_aldg zG0 :: zq_getfg 2 zG0 :: zq_aldg zG0 :: zq_getfg 2 zG1 :: zq_k 0 :: zq_iast :: zq_k 0 :: zq_istg zE5 :: zq_k 0 :: zq_istg zE6 :: xb_61_1
noncomputable def xf_61_0 : zE → zKn := fun E => zq_aldg zG0 (zq_getfg 2 zG0 (zq_k 4294967295 (zq_fill (zq_aldg zG0 (zq_ildg zG2 (zq_putf 2 1 0 (zq_aldg zG0 (zq_getfg 2 zG0 (zq_aldg zG0 (zq_getfg 2 zG1 (zq_k 0 (zq_iast (zq_k 0 (zq_istg zE5 (zq_k 0 (zq_istg zE6 (xf_61_1 E) E) E) E) E) E) E) E) E) E) E) E) E) E) E) E) E) E
theorem xe_61_0 : xf_61_0 = zEx xb_61_0 := by
  unfold xf_61_0 xb_61_0
  rw [xe_61_1]
  rfl
theorem xc_61_0 : zCd 61 [0, 29, 55, 81] 0 xb_61_0 := zc_aload_n xj_61 1 0 rfl rfl zf_ald_0 (zc_getf xj_61 4 9 2 0 70 rfl rfl (zf_getf_0 _) (zc_iconst xj_61 5 (-1) 4294967295 rfl rfl rfl (zc_any xj_61 8 (.invokestatic 18) [2, 356, 2, 169, 0, 4] rfl rfl (zq_fill) rfl rfl (zc_aload_n xj_61 9 0 rfl rfl zf_ald_0 (zc_iload_n xj_61 10 2 rfl rfl zf_ild_2 (zc_putf xj_61 13 38 2 1 72 0 rfl rfl rfl (zc_aload_n xj_61 14 0 rfl rfl zf_ald_0 (zc_getf xj_61 17 9 2 0 70 rfl rfl (zf_getf_0 _) (zc_aload_n xj_61 18 0 rfl rfl zf_ald_0 (zc_getf xj_61 21 38 2 1 72 rfl rfl (zf_getf_1 _) (zc_iconst xj_61 22 0 0 rfl rfl rfl (zc_iastore xj_61 23 rfl rfl (zc_iconst xj_61 24 0 0 rfl rfl rfl (zc_istore xj_61 26 5 rfl rfl zf_ist_5 (zc_iconst xj_61 27 0 0 rfl rfl rfl (zc_istore xj_61 29 6 rfl rfl zf_ist_6 (xc_61_1)))))))))))))))))
noncomputable def xm_61 : Lean.RArray (zE → zKn) := .branch 55 (.branch 29 (.leaf xf_61_0) (.leaf xf_61_1)) (.branch 81 (.leaf xf_61_2) (.leaf xf_61_3))
theorem xa_61 : zCdAll 61 [0, 29, 55, 81] xm_61 := zAll2_ok (P := fun t => ∃ c, zCd 61 [0, 29, 55, 81] t c ∧ xm_61.get t = zEx c) ⟨⟨_, xc_61_0, xe_61_0⟩, ⟨_, xc_61_1, xe_61_1⟩, ⟨_, xc_61_2, xe_61_2⟩, ⟨_, xc_61_3, xe_61_3⟩, trivial⟩
/-- SquareMesh$Passages.nextOnWalk -/
theorem xj_62 : ∀ pc, pI 62 pc = pJ_62 pc := fun _ => rfl
noncomputable def xb_62_3 : List zF := [zq_k 4294967295, zq_iret 0]
noncomputable def xf_62_3 : zE → zKn := fun E => zq_k 4294967295 (zq_iret 0 (zNil) E) E
theorem xe_62_3 : xf_62_3 = zEx xb_62_3 := by
  unfold xf_62_3 xb_62_3
  rfl
theorem xc_62_3 : zCd 62 [0, 3, 56, 62] 62 xb_62_3 := zc_iconst xj_62 63 (-1) 4294967295 rfl rfl rfl (zc_ireturn0 xj_62 64 rfl rfl (trivial))
noncomputable def xb_62_2 : List zF := [zq_incg zG4 zE4 1, zq_goto 3]
noncomputable def xf_62_2 : zE → zKn := fun E => zq_incg zG4 zE4 1 (zq_goto 3 (zNil) E) E
theorem xe_62_2 : xf_62_2 = zEx xb_62_2 := by
  unfold xf_62_2 xb_62_2
  rfl
theorem xc_62_2 : zCd 62 [0, 3, 56, 62] 56 xb_62_2 := zc_iinc xj_62 59 4 1 1 rfl rfl rfl (zf_inc_4 _) (zc_goto xj_62 60 (-56) 3 rfl rfl rfl (trivial))
noncomputable def xb_62_1 : List zF := [zq_ildg zG4, zq_k 3, zq_ic_ge 62, zq_aldg zG1, zq_aldg zG0, zq_getfg 2 zG1, zq_ildg zG4, zq_calli 37 2 1 4, zq_istg zE5, zq_ildg zG5, zq_k 4294967295, zq_ic_eq 56, zq_aldg zG0, zq_getfg 2 zG0, zq_ildg zG5, zq_ild_ 0, zq_k 4294967295, zq_ic_ne 56, zq_aldg zG1, zq_aldg zG0, zq_getfg 2 zG1, zq_ildg zG4, zq_ildg zG2, zq_ildg zG3, zq_calli 40 4 1 5, zq_if_ge 56, zq_ildg zG5, zq_iret 0]
noncomputable def xf_62_1 : zE → zKn := fun E => zq_ildg zG4 (zq_k 3 (zq_ic_ge 62 (zq_aldg zG1 (zq_aldg zG0 (zq_getfg 2 zG1 (zq_ildg zG4 (zq_calli 37 2 1 4 (zq_istg zE5 (zq_ildg zG5 (zq_k 4294967295 (zq_ic_eq 56 (zq_aldg zG0 (zq_getfg 2 zG0 (zq_ildg zG5 (zq_ild_ 0 (zq_k 4294967295 (zq_ic_ne 56 (zq_aldg zG1 (zq_aldg zG0 (zq_getfg 2 zG1 (zq_ildg zG4 (zq_ildg zG2 (zq_ildg zG3 (zq_calli 40 4 1 5 (zq_if_ge 56 (zq_ildg zG5 (zq_iret 0 (zNil) E) E) E) E) E) E) E) E) E) E) E) E) E) E) E) E) E) E) E) E) E) E) E) E) E) E) E) E
theorem xe_62_1 : xf_62_1 = zEx xb_62_1 := by
  unfold xf_62_1 xb_62_1
  rfl
theorem xc_62_1 : zCd 62 [0, 3, 56, 62] 3 xb_62_1 := zc_iload xj_62 5 4 rfl rfl zf_ild_4 (zc_iconst xj_62 6 3 3 rfl rfl rfl (zc_ic_ge xj_62 9 56 62 rfl rfl rfl (zc_aload_n xj_62 10 1 rfl rfl zf_ald_1 (zc_aload_n xj_62 11 0 rfl rfl zf_ald_0 (zc_getf xj_62 14 38 2 1 72 rfl rfl (zf_getf_1 _) (zc_iload xj_62 16 4 rfl rfl zf_ild_4 (zc_invokevirtual1 xj_62 19 30 37 2 171 1 4 rfl rfl rfl rfl (zc_istore xj_62 21 5 rfl rfl zf_ist_5 (zc_iload xj_62 23 5 rfl rfl zf_ild_5 (zc_iconst xj_62 24 (-1) 4294967295 rfl rfl rfl (zc_ic_eq xj_62 27 32 56 rfl rfl rfl (zc_aload_n xj_62 28 0 rfl rfl zf_ald_0 (zc_getf xj_62 31 9 2 0 70 rfl rfl (zf_getf_0 _) (zc_iload xj_62 33 5 rfl rfl zf_ild_5 (zc_iaload xj_62 34 rfl rfl (zc_iconst xj_62 35 (-1) 4294967295 rfl rfl rfl (zc_ic_ne xj_62 38 21 56 rfl rfl rfl (zc_aload_n xj_62 39 1 rfl rfl zf_ald_1 (zc_aload_n xj_62 40 0 rfl rfl zf_ald_0 (zc_getf xj_62 43 38 2 1 72 rfl rfl (zf_getf_1 _) (zc_iload xj_62 45 4 rfl rfl zf_ild_4 (zc_iload_n xj_62 46 2 rfl rfl zf_ild_2 (zc_iload_n xj_62 47 3 rfl rfl zf_ild_3 (zc_invokevirtual1 xj_62 50 46 40 4 172 1 5 rfl rfl rfl rfl (zc_if_ge xj_62 53 6 56 rfl rfl rfl (zc_iload xj_62 55 5 rfl rfl zf_ild_5 (zc_ireturn0 xj_62 56 rfl rfl (trivial))))))))))))))))))))))))))))
noncomputable def xb_62_0 : List zF := zq_k 0 :: zq_istg zE4 :: xb_62_1
noncomputable def xf_62_0 : zE → zKn := fun E => zq_k 0 (zq_istg zE4 (xf_62_1 E) E) E
theorem xe_62_0 : xf_62_0 = zEx xb_62_0 := by
  unfold xf_62_0 xb_62_0
  rw [xe_62_1]
  rfl
theorem xc_62_0 : zCd 62 [0, 3, 56, 62] 0 xb_62_0 := zc_iconst xj_62 1 0 0 rfl rfl rfl (zc_istore xj_62 3 4 rfl rfl zf_ist_4 (xc_62_1))
noncomputable def xm_62 : Lean.RArray (zE → zKn) := .branch 56 (.branch 3 (.leaf xf_62_0) (.leaf xf_62_1)) (.branch 62 (.leaf xf_62_2) (.leaf xf_62_3))
theorem xa_62 : zCdAll 62 [0, 3, 56, 62] xm_62 := zAll2_ok (P := fun t => ∃ c, zCd 62 [0, 3, 56, 62] t c ∧ xm_62.get t = zEx c) ⟨⟨_, xc_62_0, xe_62_0⟩, ⟨_, xc_62_1, xe_62_1⟩, ⟨_, xc_62_2, xe_62_2⟩, ⟨_, xc_62_3, xe_62_3⟩, trivial⟩
