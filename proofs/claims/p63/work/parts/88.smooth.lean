/-! A MESH SMOOTHED. By hand, rows laid by program (wip/p63/wk.py, wo.py, mk88.py). -/
theorem sumR_bd {f : Nat → Int} {m : Int} (hf : ∀ k : Nat, -m ≤ f k ∧ f k ≤ m) : ∀ (n : Nat), -(m * n) ≤ sumR n f ∧ sumR n f ≤ m * n := by
  intro n
  induction n with
  | zero => exact ⟨by show -(m * 0) ≤ 0; omega, by show (0 : Int) ≤ m * 0; omega⟩
  | succ n ih =>
    have := hf n
    show -(m * ((n + 1 : Nat) : Int)) ≤ sumR n f + f n ∧ sumR n f + f n ≤ m * ((n + 1 : Nat) : Int)
    rw [show m * ((n + 1 : Nat) : Int) = m * (n : Int) + m by rw [Int.natCast_add, Int.mul_add]; simp]
    omega
theorem sumR_bd2 {f : Nat → Int} {m : Int} {n : Nat} (hf : ∀ k : Nat, k < n → -m ≤ f k ∧ f k ≤ m) : -(m * n) ≤ sumR n f ∧ sumR n f ≤ m * n := by
  by_cases h0 : n = 0
  · subst h0; exact ⟨by show -(m * 0) ≤ 0; omega, by show (0 : Int) ≤ m * 0; omega⟩
  · have hm := hf 0 (by omega)
    rw [sumR_congr (g := fun k => if k < n then f k else 0) (fun k hk => (if_pos hk).symm)]
    refine sumR_bd (fun k => ?_) n
    show -m ≤ (if k < n then f k else 0) ∧ (if k < n then f k else 0) ≤ m
    split
    · exact hf k (by assumption)
    · omega
/-- a sum over the neighbours of p -/
noncomputable def St.sE (S : St) (p : Nat) (f : Nat → Int) : Int := sumR 40 (fun j => @ite Int (S.E p j) (Classical.propDecidable _) (f j) 0)
theorem St.sE_eq {S T : St} {p : Nat} (h : ∀ j : Nat, j < 40 → (T.E p j ↔ S.E p j)) (f : Nat → Int) : T.sE p f = S.sE p f := by
  unfold St.sE
  apply sumR_congr
  intro j hj
  by_cases c : S.E p j
  · exact (if_pos ((h j hj).mpr c)).trans (if_pos c).symm
  · exact (if_neg (fun z => c ((h j hj).mp z))).trans (if_neg c).symm
theorem St.ring_sum {S : St} (hG : S.Geo) {p v0 n : Nat} (hp : p < 40) (hin : ¬ S.onB p) (hv0 : v0 < 40) (hE0 : S.E p v0) (hr : S.rnd p v0 n) (f : Nat → Int) : sumR n (fun k => f (S.it p v0 k)) = S.sE p f := by
  obtain ⟨-, -, h1, h2, -, h3⟩ := St.ring hG hp hin hv0 hE0 hr
  have e1 : sumR n (fun k => f (S.it p v0 k)) = sumR n (fun k => sumR 40 (fun j => if j = S.it p v0 k then f j else 0)) := by
    apply sumR_congr
    intro k hk
    rw [sumR_one (f := fun j => if j = S.it p v0 k then f j else 0) (k := S.it p v0 k) (h1 k hk).1 (fun j _ hj => if_neg hj)]
    exact (if_pos rfl).symm
  rw [e1, sumR_swap]
  unfold St.sE
  apply sumR_congr
  intro j hj
  by_cases c : S.E p j
  · obtain ⟨k, hk, e⟩ := h3 j hj c
    refine Eq.trans ?_ (if_pos c).symm
    rw [sumR_one (f := fun k => if j = S.it p v0 k then f j else 0) (k := k) hk (fun i hi hne => if_neg (fun z => hne (h2 i k hi hk (z.symm.trans e))))]
    exact if_pos e
  · refine Eq.trans ?_ (if_neg c).symm
    rw [sumR_congr (g := fun _ => 0) (fun k hk => if_neg (fun z => c (by rw [z]; exact (h1 k hk).2.1))), sumR_zero]
/-- the first of a round about a loose point -/
theorem St.loose_v0 {S : St} (hS : S.Ok) {p : Nat} (hp : p < 40) (sp : S.has p) (hl : ∀ v : Nat, v < 40 → ¬ S.bound p v) : ∃ v0 : Nat, v0 < 40 ∧ S.frF p 40 0 (-1) = (v0 : Int) ∧ S.E p v0 := by
  have hin := St.loose_in hS.M hp sp hl
  obtain ⟨hinB, hdi, hA, hcy, hpo, hcv, hbd, hbn, hal⟩ := hS.M.1
  have hback : ∀ u : Nat, u < 40 → S.E u p → S.E p u := by
    intro u hu z z2
    have := hbd u p hu hp z z2
    apply hin
    unfold St.onside at this
    unfold St.onB
    omega
  have hforth : ∀ u : Nat, u < 40 → S.E p u → S.E u p := by
    intro u hu z z2
    have := hbd p u hp hu z z2
    apply hin
    unfold St.onside at this
    unfold St.onB
    omega
  have near := fun v hv => St.near_E hS.M.1.PM hS.2.1 (a := p) (b := v) hp hv
  rcases S.frF_ge p 40 0 (-1) with ⟨q, q1, q2, q3, q4, q5⟩ | ⟨-, z | z⟩
  · exfalso
    have e := (near q (by omega)).mp q4
    have ep : S.E p q := e.elim (fun z => z) (fun z => absurd q5 z)
    exact hforth q (by omega) ep q5
  · exfalso
    obtain ⟨v, hv, v1⟩ := hal p hp sp
    rcases z.2 with y | y
    · exact y rfl
    · exact y v (Nat.zero_le _) (by omega) ((near v hv).mpr (Or.inl v1))
  · obtain ⟨-, q, q1, q2, q3, q4⟩ := z
    refine ⟨q, by omega, q3, ?_⟩
    have e := (near q (by omega)).mp q4
    exact e.elim (fun z => z) (fun z => hback q (by omega) z)
/-- near is E, about a loose point -/
theorem St.loose_E {S : St} (hM : S.Msh) {p : Nat} (hp : p < 40) (hin : ¬ S.onB p) {u : Nat} (hu : u < 40) : S.E u p ↔ S.E p u := by
  obtain ⟨hinB, hdi, hA, hcy, hpo, hcv, hbd, hbn, hal⟩ := hM.1
  constructor
  · intro z z2
    have := hbd u p hu hp z z2
    apply hin
    unfold St.onside at this
    unfold St.onB
    omega
  · intro z z2
    have := hbd p u hp hu z z2
    apply hin
    unfold St.onside at this
    unfold St.onB
    omega
theorem St.Ok_rd {S : St} (h : S.Ok) {rd : Nat → Int} (hr : ∀ j : Nat, j < 40 → 0 ≤ rd j ∧ rd j < 40) : (S.u_rd rd).Ok := by
  obtain ⟨⟨hM, hD, hI, hq, hn9, hc⟩, hE, hT, hR, hg⟩ := h
  have hcg : S.cong (S.u_rd rd) := ⟨hI.B, fun _ _ => Iff.rfl, fun _ _ _ => ⟨rfl, rfl⟩, fun _ _ => rfl, fun _ _ _ _ => Iff.rfl⟩
  exact ⟨⟨St.cong_Msh hcg hM, St.cong_Del hcg hM.1 hD, hI, hq, hn9, hc⟩, hE, hT, hr, hg⟩
theorem St.atP_eq {S T : St} (hx : T.xs = S.xs) (hy : T.ys = S.ys) (ht : T.th = S.th) (x y : Int) : T.atP x y = S.atP x y := by
  have : ∀ (n p : Nat), T.atF x y n p = S.atF x y n p := by
    intro n
    induction n with
    | zero => intro p; rfl
    | succ n ih =>
      intro p
      by_cases c : S.has p ∧ S.xs p = x ∧ S.ys p = y
      · rw [St.atF_pos c.1 c.2.1 c.2.2, St.atF_pos (by unfold St.has; rw [ht]; exact c.1) (by rw [hx]; exact c.2.1) (by rw [hy]; exact c.2.2)]
      · rw [St.atF_neg c, St.atF_neg (by unfold St.has; rw [hx, hy, ht]; exact c), ih]
  exact this 40 0
noncomputable def St.smN (S : St) (p : Nat) : Int := S.sE p (fun _ => 1)
noncomputable def St.smX (S : St) (p : Nat) : Int := S.sE p S.xs / S.smN p
noncomputable def St.smY (S : St) (p : Nat) : Int := S.sE p S.ys / S.smN p
theorem ediv_bd {s n : Int} (hn : 0 < n) (h : -(1000 * n) ≤ s ∧ s ≤ 1000 * n) : -1000 ≤ s / n ∧ s / n ≤ 1000 := by
  constructor
  · rw [Int.le_ediv_iff_mul_le hn]; omega
  · have : s / n < 1001 := by rw [Int.ediv_lt_iff_lt_mul hn]; omega
    omega
theorem sumR_ones : ∀ (n : Nat), sumR n (fun _ => 1) = (n : Int) := by
  intro n
  induction n with
  | zero => rfl
  | succ n ih => show sumR n (fun _ => 1) + 1 = _; rw [ih]; omega
theorem l_smSum {pre X : pW} {b : Nat} (hb : pre.length = b) {S T : St} {p v0 n : Nat} (hn : n ≤ 39) (eTx : T.xs = S.xs) (eTy : T.ys = S.ys) (hrd : ∀ j : Nat, j < n → T.rd j = (S.it p v0 j : Int)) (hit : ∀ j : Nat, S.it p v0 j < 40) (hB : S.inB) {Φ : Option Value → pW → Prop} (K : qE 97 (85, [(5, .int (iI (n : Int))), (4, .int (iI (sumR n (fun i => S.ys (S.it p v0 i))))), (3, .int (iI (sumR n (fun i => S.xs (S.it p v0 i))))), (2, .int (iI (n : Int))), (0, .ref b), (1, .int (iI (p : Int)))], [], ((pre ++ oC (b + 1)) ++ (mB (b + 1) T ++ X))) Φ) : ∀ (d k : Nat), k + d = n → qE 97 (23, [(5, .int (iI (k : Int))), (4, .int (iI (sumR k (fun i => S.ys (S.it p v0 i))))), (3, .int (iI (sumR k (fun i => S.xs (S.it p v0 i))))), (2, .int (iI (n : Int))), (0, .ref b), (1, .int (iI (p : Int)))], [], ((pre ++ oC (b + 1)) ++ (mB (b + 1) T ++ X))) Φ := by
  intro d
  induction d with
  | zero =>
    intro k hk
    refine pe_go (pc := 23) rfl (s_iload rfl) ?_
    refine pe_go (pc := 25) rfl (s_iload_n rfl) ?_
    refine pe_go rfl (s_icmp_ge_t ⟨by omega, by omega⟩ ⟨by omega, by omega⟩ (by omega)) ?_
    rw [show k = n by omega]
    exact K
  | succ d ih =>
    intro k hk
    have hit9 := hit k
    have hB9 := hB _ hit9
    have hbx := sumR_bd2 (f := fun i => S.xs (S.it p v0 i)) (m := 1000) (n := k) (fun i _ => by have := hB _ (hit i); omega)
    have hby := sumR_bd2 (f := fun i => S.ys (S.it p v0 i)) (m := 1000) (n := k) (fun i _ => by have := hB _ (hit i); omega)
    refine pe_go (pc := 23) rfl (s_iload rfl) ?_
    refine pe_go (pc := 25) rfl (s_iload_n rfl) ?_
    refine pe_go rfl (s_icmp_ge_f ⟨by omega, by omega⟩ ⟨by omega, by omega⟩ (by omega)) ?_
    refine pe_go (pc := 29) rfl (s_iload_n rfl) ?_
    refine pe_go (pc := 30) rfl (s_aload_n rfl) ?_
    refine pe_go (pc := 31) rfl (s_getf (v := .ref (b + 1)) (gO hb) rfl) ?_
    refine pe_go (pc := 34) rfl (s_getf (v := .ref (b + 1 + 1)) (gA0 (oC_len hb) (mB_0 _ _ _)) rfl) ?_
    refine pe_go (pc := 37) rfl (s_getf (v := .ref (b + 1 + 2)) (gA (oC_len hb) (mB_1 _ _ _)) rfl) ?_
    refine pe_go (pc := 40) rfl (s_aload_n rfl) ?_
    refine pe_go (pc := 41) rfl (s_getf (v := .ref (b + 1)) (gO hb) rfl) ?_
    refine pe_go (pc := 44) rfl (s_getf (v := .ref (b + 1 + 13)) (gA0 (oC_len hb) (mB_0 _ _ _)) rfl) ?_
    refine pe_go (pc := 47) rfl (s_iload rfl) ?_
    refine pe_go (pc := 49) rfl (s_iald (n := 40) (f := T.rd) (v := ((S.it p v0 k : Nat) : Int)) (gA (oC_len hb) (mB_rd _ _ _)) (k := k) (by omega) (by omega) (by decide) (hrd k (by omega))) ?_
    refine pe_go (pc := 50) rfl (s_iald (n := 40) (f := T.xs) (v := S.xs (S.it p v0 k)) (gA (oC_len hb) (mB_xs _ _ _)) (k := (S.it p v0 k)) (by omega) (by omega) (by decide) (by rw [eTx])) ?_
    refine pe_go (pc := 51) rfl s_iadd ?_
    refine pe_go (pc := 52) rfl (s_istore_n (lv' := [(3, .int (iI ((sumR k (fun i => S.xs (S.it p v0 i))) + (S.xs (S.it p v0 k))))), (5, .int (iI (k : Int))), (4, .int (iI (sumR k (fun i => S.ys (S.it p v0 i))))), (2, .int (iI (n : Int))), (0, .ref b), (1, .int (iI (p : Int)))]) rfl) ?_
    refine pe_go (pc := 53) rfl (s_iload rfl) ?_
    refine pe_go (pc := 55) rfl (s_aload_n rfl) ?_
    refine pe_go (pc := 56) rfl (s_getf (v := .ref (b + 1)) (gO hb) rfl) ?_
    refine pe_go (pc := 59) rfl (s_getf (v := .ref (b + 1 + 1)) (gA0 (oC_len hb) (mB_0 _ _ _)) rfl) ?_
    refine pe_go (pc := 62) rfl (s_getf (v := .ref (b + 1 + 3)) (gA (oC_len hb) (mB_1 _ _ _)) rfl) ?_
    refine pe_go (pc := 65) rfl (s_aload_n rfl) ?_
    refine pe_go (pc := 66) rfl (s_getf (v := .ref (b + 1)) (gO hb) rfl) ?_
    refine pe_go (pc := 69) rfl (s_getf (v := .ref (b + 1 + 13)) (gA0 (oC_len hb) (mB_0 _ _ _)) rfl) ?_
    refine pe_go (pc := 72) rfl (s_iload rfl) ?_
    refine pe_go (pc := 74) rfl (s_iald (n := 40) (f := T.rd) (v := ((S.it p v0 k : Nat) : Int)) (gA (oC_len hb) (mB_rd _ _ _)) (k := k) (by omega) (by omega) (by decide) (hrd k (by omega))) ?_
    refine pe_go (pc := 75) rfl (s_iald (n := 40) (f := T.ys) (v := S.ys (S.it p v0 k)) (gA (oC_len hb) (mB_ys _ _ _)) (k := (S.it p v0 k)) (by omega) (by omega) (by decide) (by rw [eTy])) ?_
    refine pe_go (pc := 76) rfl s_iadd ?_
    refine pe_go (pc := 77) rfl (s_istore (lv' := [(4, .int (iI ((sumR k (fun i => S.ys (S.it p v0 i))) + (S.ys (S.it p v0 k))))), (3, .int (iI ((sumR k (fun i => S.xs (S.it p v0 i))) + (S.xs (S.it p v0 k))))), (5, .int (iI (k : Int))), (2, .int (iI (n : Int))), (0, .ref b), (1, .int (iI (p : Int)))]) rfl) ?_
    refine pe_go (pc := 79) rfl (s_iinc (x := (k : Int)) (y := ((k + 1 : Nat) : Int)) rfl (by omega) (lv' := [(5, .int (iI ((k + 1 : Nat) : Int))), (4, .int (iI ((sumR k (fun i => S.ys (S.it p v0 i))) + (S.ys (S.it p v0 k))))), (3, .int (iI ((sumR k (fun i => S.xs (S.it p v0 i))) + (S.xs (S.it p v0 k))))), (2, .int (iI (n : Int))), (0, .ref b), (1, .int (iI (p : Int)))]) rfl) ?_
    refine pe_go (pc := 82) rfl s_goto ?_
    refine pe_few (lv := [(5, .int (iI ((k + 1 : Nat) : Int))), (4, .int (iI ((sumR k (fun i => S.ys (S.it p v0 i))) + (S.ys (S.it p v0 k))))), (3, .int (iI ((sumR k (fun i => S.xs (S.it p v0 i))) + (S.xs (S.it p v0 k))))), (2, .int (iI (n : Int))), (0, .ref b), (1, .int (iI (p : Int)))]) rfl rfl (by intro q hq; simp only [List.mem_cons, List.not_mem_nil, or_false] at hq; rcases hq with rfl | rfl | rfl | rfl | rfl | rfl <;> rfl) ?_
    exact ih (k + 1) (by omega)
def St.loose (S : St) (p : Nat) : Prop := S.has p ∧ S.fx p = lI 0
theorem St.loose_b {S : St} {p : Nat} (h : S.loose p) : ∀ v : Nat, v < 40 → ¬ S.bound p v := fun v hv z => by
  unfold St.bound at z
  rw [h.2, show lI 0 = (0 : Int64) from rfl, bt_0] at z
  cases z
/-- a point moved to the middle of its neighbours, or not -/
def sm1 (S : St) (p c : Nat) (S' : St) (c' : Nat) : Prop := (S.loose p ∧ S.atP (S.smX p) (S.smY p) = -1 ∧ (∃ R : St, R.Ok ∧ (R.xs = S.xs ∧ R.ys = S.ys ∧ R.th = bClr S.th p ∧ R.fx = S.fx) ∧ S.rst R ∧ R.laid S' p (S.smX p) (S.smY p) ∧ R.rst S') ∧ c' = c + 1) ∨ (¬ (S.loose p ∧ S.atP (S.smX p) (S.smY p) = -1) ∧ S.tld S' ∧ c' = c)
def smR : Nat → Nat → St → Nat → St → Nat → Prop
  | 0, _, S, c, S', c' => S' = S ∧ c' = c
  | d + 1, p, S, c, S', c' => ∃ (S1 : St) (c1 : Nat), S1.Ok ∧ sm1 S p c S1 c1 ∧ smR d (p + 1) S1 c1 S' c'
theorem k_smOne {pre X : pW} {b : Nat} (hb : pre.length = b) {S : St} (hS : S.Ok) {p : Nat} (hp : p < 40) (hl : S.loose p) (c : Nat) : qC 97 [.ref b, .int (iI (p : Int))] ((pre ++ oC (b + 1)) ++ (mB (b + 1) S ++ X)) (fun r w' => ∃ (q : Bool) (R : St), r = some (.int (bI q)) ∧ R.Ok ∧ sm1 S p c R (c + q.toNat) ∧ w' = ((pre ++ oC (b + 1)) ++ (mB (b + 1) R ++ X))) := by
  have hlb := St.loose_b hl
  obtain ⟨v0, hv0, hf, hE0⟩ := St.loose_v0 hS hp hl.1 hlb
  have hin := St.loose_in hS.M hp hl.1 hlb
  refine pc_run (lv := [(0, .ref b), (1, .int (iI (p : Int)))]) rfl ?_
  refine pe_go (pc := 0) rfl (s_aload_n rfl) ?_
  refine pe_go (pc := 1) rfl (s_getf (v := .ref (b + 1)) (gO hb) rfl) ?_
  refine pe_go (pc := 4) rfl (s_iload_n rfl) ?_
  refine pe_callE rfl (s_invV rfl (gA0 (oC_len hb) (mB_0 _ _ _)) rfl rfl) (c_goRound (oC_len hb) S hp hv0 hS.I.A hf) ?_
  rintro _ _ ⟨n, rd, rfl, hr9, hrd9, hrd2, rfl⟩
  obtain ⟨hn3, hn39, hring, hinj, -, hcovr⟩ := St.ring hS.M.1 hp hin hv0 hE0 hr9
  have hall : ∀ i : Nat, S.ap (p * 40 + S.it p v0 i) ≠ -1 ∧ S.it p v0 i < 40 := by
    intro i
    induction i with
    | zero => exact ⟨hE0, hv0⟩
    | succ i ih =>
      obtain ⟨c9, hc9, k1, k2, k3, k4, -⟩ := St.step hS.M.1.PM.1 hS.M.1.PM.2.1 hS.M.1.PM.2.2 hp ih.2 ih.1
      have e : S.it p v0 (i + 1) = c9 := k2
      rw [e]
      exact ⟨(St.loose_E hS.M hp hin hc9).mp (by unfold St.E; omega), hc9⟩
  have hsx : sumR n (fun k => S.xs (S.it p v0 k)) = S.sE p S.xs := St.ring_sum hS.M.1 hp hin hv0 hE0 hr9 S.xs
  have hsy : sumR n (fun k => S.ys (S.it p v0 k)) = S.sE p S.ys := St.ring_sum hS.M.1 hp hin hv0 hE0 hr9 S.ys
  have hsn : (n : Int) = S.smN p := by rw [← sumR_ones n]; exact St.ring_sum hS.M.1 hp hin hv0 hE0 hr9 (fun _ => 1)
  have hbx := sumR_bd2 (f := fun i => S.xs (S.it p v0 i)) (m := 1000) (n := n) (fun i _ => by have := hS.B _ (hall i).2; omega)
  have hby := sumR_bd2 (f := fun i => S.ys (S.it p v0 i)) (m := 1000) (n := n) (fun i _ => by have := hS.B _ (hall i).2; omega)
  have hdx := ediv_bd (n := (n : Int)) (by omega) hbx
  have hdy := ediv_bd (n := (n : Int)) (by omega) hby
  have eX : sumR n (fun k => S.xs (S.it p v0 k)) / (n : Int) = S.smX p := by unfold St.smX; rw [hsx, hsn]
  have eY : sumR n (fun k => S.ys (S.it p v0 k)) / (n : Int) = S.smY p := by unfold St.smY; rw [hsy, hsn]
  have hTO : (S.u_rd rd).Ok := St.Ok_rd hS (fun j hj => by
    by_cases c9 : j < n
    · rw [hrd9 j c9]; have := (hall j).2; omega
    · rw [hrd2 j (by omega)]; exact hS.2.2.2.1 j hj)
  obtain ⟨T, eT⟩ : ∃ T : St, T = S.u_rd rd := ⟨_, rfl⟩
  rw [← eT] at hTO
  have eTx : T.xs = S.xs := by rw [eT]; rfl
  have eTy : T.ys = S.ys := by rw [eT]; rfl
  have eTt : T.th = S.th := by rw [eT]; rfl
  have eTf : T.fx = S.fx := by rw [eT]; rfl
  have eTr : T.rd = rd := by rw [eT]; rfl
  have eTd : S.tld T := by rw [eT]; exact ⟨rfl, rfl, rfl, rfl, rfl, rfl, rfl, rfl, rfl⟩
  have hTl : T.loose p := ⟨by unfold St.has; rw [eTt]; exact hl.1, by rw [eTf]; exact hl.2⟩
  rw [← eT]
  refine pe_go (pc := 8) rfl (s_istore_n (lv' := [(2, .int (iI (n : Int))), (0, .ref b), (1, .int (iI (p : Int)))]) rfl) ?_
  refine pe_go (pc := 9) rfl (s_iload_n rfl) ?_
  refine pe_go rfl (s_if_gt_t ⟨by omega, by omega⟩ (by omega)) ?_
  refine pe_go (pc := 15) rfl (s_iconst (z := 0) rfl) ?_
  refine pe_go (pc := 16) rfl (s_istore_n (lv' := [(3, .int (iI 0)), (2, .int (iI (n : Int))), (0, .ref b), (1, .int (iI (p : Int)))]) rfl) ?_
  refine pe_go (pc := 17) rfl (s_iconst (z := 0) rfl) ?_
  refine pe_go (pc := 18) rfl (s_istore (lv' := [(4, .int (iI 0)), (3, .int (iI 0)), (2, .int (iI (n : Int))), (0, .ref b), (1, .int (iI (p : Int)))]) rfl) ?_
  refine pe_go (pc := 20) rfl (s_iconst (z := 0) rfl) ?_
  refine pe_go (pc := 21) rfl (s_istore (lv' := [(5, .int (iI 0)), (4, .int (iI 0)), (3, .int (iI 0)), (2, .int (iI (n : Int))), (0, .ref b), (1, .int (iI (p : Int)))]) rfl) ?_
  refine pe_few (lv := [(5, .int (iI ((0 : Nat) : Int))), (4, .int (iI (sumR 0 (fun i => S.ys (S.it p v0 i))))), (3, .int (iI (sumR 0 (fun i => S.xs (S.it p v0 i))))), (2, .int (iI (n : Int))), (0, .ref b), (1, .int (iI (p : Int)))]) rfl rfl (by intro q hq; simp only [List.mem_cons, List.not_mem_nil, or_false] at hq; rcases hq with rfl | rfl | rfl | rfl | rfl | rfl <;> rfl) ?_
  refine l_smSum hb hn39 eTx eTy (fun j hj => by rw [eTr]; exact hrd9 j hj) (fun j => (hall j).2) hS.B ?_ n 0 (by omega)
  refine pe_go (pc := 85) rfl (s_iload_n rfl) ?_
  refine pe_go (pc := 86) rfl (s_iload_n rfl) ?_
  refine pe_call rfl (s_invS rfl rfl rfl) ((eX ▸ c_floorDiv (x := sumR n (fun i => S.xs (S.it p v0 i))) (y := (n : Int)) ⟨by omega, by omega⟩ ⟨by omega, by omega⟩ (by omega) (by omega) (by omega))) ?_
  refine pe_go (pc := 90) rfl (s_istore (lv' := [(5, .int (iI (S.smX p))), (4, .int (iI (sumR n (fun i => S.ys (S.it p v0 i))))), (3, .int (iI (sumR n (fun i => S.xs (S.it p v0 i))))), (2, .int (iI (n : Int))), (0, .ref b), (1, .int (iI (p : Int)))]) rfl) ?_
  refine pe_go (pc := 92) rfl (s_iload rfl) ?_
  refine pe_go (pc := 94) rfl (s_iload_n rfl) ?_
  refine pe_call rfl (s_invS rfl rfl rfl) ((eY ▸ c_floorDiv (x := sumR n (fun i => S.ys (S.it p v0 i))) (y := (n : Int)) ⟨by omega, by omega⟩ ⟨by omega, by omega⟩ (by omega) (by omega) (by omega))) ?_
  refine pe_go (pc := 98) rfl (s_istore (lv' := [(6, .int (iI (S.smY p))), (5, .int (iI (S.smX p))), (4, .int (iI (sumR n (fun i => S.ys (S.it p v0 i))))), (3, .int (iI (sumR n (fun i => S.xs (S.it p v0 i))))), (2, .int (iI (n : Int))), (0, .ref b), (1, .int (iI (p : Int)))]) rfl) ?_
  refine pe_go (pc := 100) rfl (s_aload_n rfl) ?_
  refine pe_go (pc := 101) rfl (s_getf (v := .ref (b + 1)) (gO hb) rfl) ?_
  refine pe_go (pc := 104) rfl (s_getf (v := .ref (b + 1 + 1)) (gA0 (oC_len hb) (mB_0 _ _ _)) rfl) ?_
  refine pe_go (pc := 107) rfl (s_iload rfl) ?_
  refine pe_go (pc := 109) rfl (s_iload rfl) ?_
  refine pe_call rfl (s_invV rfl (gA (oC_len hb) (mB_1 _ _ _)) rfl rfl) (c_atPlace (oC_len hb) T ⟨by omega, by omega⟩ ⟨by omega, by omega⟩ hTO.B) ?_
  refine pe_go (pc := 114) rfl (s_iconst (z := -1) rfl) ?_
  by_cases c2 : (T.atP (S.smX p) (S.smY p)) = (-1)
  · skip
    refine pe_go rfl (s_icmp_eq_t (T.atP_sm _ _) ⟨by decide, by decide⟩ c2) ?_
    refine pe_go (pc := 120) rfl (s_aload_n rfl) ?_
    refine pe_go (pc := 121) rfl (s_getf (v := .ref (b + 1)) (gO hb) rfl) ?_
    refine pe_go (pc := 124) rfl (s_iload_n rfl) ?_
    refine pe_callE rfl (s_invV rfl (gA0 (oC_len hb) (mB_0 _ _ _)) rfl rfl) (k_out (oC_len hb) hTO hp hTl.1 hTl.2) ?_
    rintro _ _ ⟨rfl, R3, hR3, hl3, hr3, rfl⟩
    refine pe_go (pc := 128) rfl (s_aload_n rfl) ?_
    refine pe_go (pc := 129) rfl (s_getf (v := .ref (b + 1)) (gO hb) rfl) ?_
    refine pe_go (pc := 132) rfl (s_iload_n rfl) ?_
    refine pe_go (pc := 133) rfl (s_iload rfl) ?_
    refine pe_go (pc := 135) rfl (s_iload rfl) ?_
    refine pe_callE rfl (s_invV rfl (gA0 (oC_len hb) (mB_0 _ _ _)) rfl rfl) (k_ins (oC_len hb) hR3 (p := p) (x := S.smX p) (y := S.smY p) hp (by unfold St.has; rw [hl3.2.2.1, bt_clr (by omega)]; simp) ⟨by omega, by omega, by omega, by omega⟩ (fun q9 h9 s9 e9 => hTO.look (by assumption) q9 h9 (by unfold St.has at s9; rw [hl3.2.2.1, bt_clr (by omega)] at s9; exact (Bool.and_eq_true _ _ ▸ s9).1) (by rw [← hl3.1, ← hl3.2.1]; exact e9))) ?_
    rintro _ _ ⟨rfl, R4, hR4, hl4, hr4, rfl⟩
    refine pe_go (pc := 140) rfl (s_iconst (z := 1) rfl) ?_
    exact pe_ret rfl s_ret1 ⟨true, R4, rfl, hR4, Or.inl ⟨hl, by rw [← St.atP_eq eTx eTy eTt]; assumption, ⟨R3, hR3, ⟨hl3.1.trans eTx, hl3.2.1.trans eTy, by rw [hl3.2.2.1, eTt], hl3.2.2.2.trans eTf⟩, St.rst_trans ⟨eTd.2.2.1, eTd.2.2.2.2.1, eTd.2.2.2.2.2.1, eTd.2.2.2.2.2.2.2.1, eTd.2.2.2.2.2.2.2.2⟩ hr3, hl4, hr4⟩, rfl⟩, rfl⟩
  · skip
    refine pe_go rfl (s_icmp_eq_f (T.atP_sm _ _) ⟨by decide, by decide⟩ c2) ?_
    refine pe_go (pc := 118) rfl (s_iconst (z := 0) rfl) ?_
    exact pe_ret rfl s_ret0 ⟨false, T, rfl, hTO, Or.inr ⟨(by rintro ⟨z1, z2⟩; rw [← St.atP_eq eTx eTy eTt] at z2; contradiction), eTd, rfl⟩, rfl⟩
theorem l_smooth {pre X : pW} {b : Nat} (hb : pre.length = b) : ∀ (d p c : Nat) (S : St), p + d = 40 → c ≤ p → S.Ok → qE 96 (15, [(2, .int (iI (p : Int))), (1, .int (iI (c : Int))), (0, .ref b)], [], ((pre ++ oC (b + 1)) ++ (mB (b + 1) S ++ X))) (fun r w' => ∃ (S' : St) (c' : Nat), smR d p S c S' c' ∧ r = some (.int (iI (c' : Int))) ∧ S'.Ok ∧ w' = ((pre ++ oC (b + 1)) ++ (mB (b + 1) S' ++ X))) := by
  intro d
  induction d with
  | zero =>
    intro p c S hp hc hS
    refine pe_go (pc := 15) rfl (s_iload_n rfl) ?_
    refine pe_go (pc := 16) rfl (s_bipush (z := 40) rfl) ?_
    refine pe_go rfl (s_icmp_ge_t ⟨by omega, by omega⟩ ⟨by decide, by decide⟩ (by omega)) ?_
    refine pe_go (pc := 52) rfl (s_iload_n rfl) ?_
    exact pe_ret rfl s_reti ⟨S, c, ⟨rfl, rfl⟩, rfl, hS, rfl⟩
  | succ d ih =>
    intro p c S hp hc hS
    refine pe_go (pc := 15) rfl (s_iload_n rfl) ?_
    refine pe_go (pc := 16) rfl (s_bipush (z := 40) rfl) ?_
    refine pe_go rfl (s_icmp_ge_f ⟨by omega, by omega⟩ ⟨by decide, by decide⟩ (by omega)) ?_
    refine pe_go (pc := 21) rfl (s_aload_n rfl) ?_
    refine pe_go (pc := 22) rfl (s_getf (v := .ref (b + 1)) (gO hb) rfl) ?_
    refine pe_go (pc := 25) rfl (s_getf (v := .ref (b + 1 + 1)) (gA0 (oC_len hb) (mB_0 _ _ _)) rfl) ?_
    refine pe_go (pc := 28) rfl (s_iload_n rfl) ?_
    refine pe_call rfl (s_invV rfl (gA (oC_len hb) (mB_1 _ _ _)) rfl rfl) (c_isLoose (oC_len hb) S (p := p) (by omega)) ?_
    by_cases b1 : S.has p ∧ S.fx p = lI 0
    · skip
      refine pe_go rfl (s_ifeq_true (decide_eq_true b1)) ?_
      refine pe_go (pc := 35) rfl (s_aload_n rfl) ?_
      refine pe_go (pc := 36) rfl (s_iload_n rfl) ?_
      refine pe_callE rfl (s_invV rfl (gO hb) rfl rfl) (k_smOne hb hS (p := p) (by omega) (by assumption) c) ?_
      rintro _ _ ⟨q9, R9, rfl, hR9, hs9, rfl⟩
      cases q9
      · skip
        refine pe_go rfl (s_ifeq_false rfl) ?_
        refine pe_go (pc := 46) rfl (s_iinc (x := (p : Int)) (y := ((p + 1 : Nat) : Int)) rfl (by omega) (lv' := [(2, .int (iI ((p + 1 : Nat) : Int))), (1, .int (iI (c : Int))), (0, .ref b)]) rfl) ?_
        refine pe_go (pc := 49) rfl s_goto ?_
        refine pe_few (lv := [(2, .int (iI ((p + 1 : Nat) : Int))), (1, .int (iI (c : Int))), (0, .ref b)]) rfl rfl (by intro q hq; simp only [List.mem_cons, List.not_mem_nil, or_false] at hq; rcases hq with rfl | rfl | rfl <;> rfl) ?_
        refine pe_mono (fun r9 w9 z9 => ?_) (ih (p + 1) (c) R9 (by omega) (by omega) hR9)
        obtain ⟨S9, c9, g1, g2, g3, g4⟩ := z9
        exact ⟨S9, c9, ⟨R9, c, hR9, hs9, g1⟩, g2, g3, g4⟩
      · skip
        refine pe_go rfl (s_ifeq_true rfl) ?_
        refine pe_go (pc := 43) rfl (s_iinc (x := (c : Int)) (y := ((c + 1 : Nat) : Int)) rfl (by omega) (lv' := [(1, .int (iI ((c + 1 : Nat) : Int))), (2, .int (iI (p : Int))), (0, .ref b)]) rfl) ?_
        refine pe_go (pc := 46) rfl (s_iinc (x := (p : Int)) (y := ((p + 1 : Nat) : Int)) rfl (by omega) (lv' := [(2, .int (iI ((p + 1 : Nat) : Int))), (1, .int (iI ((c + 1 : Nat) : Int))), (0, .ref b)]) rfl) ?_
        refine pe_go (pc := 49) rfl s_goto ?_
        refine pe_few (lv := [(2, .int (iI ((p + 1 : Nat) : Int))), (1, .int (iI ((c + 1 : Nat) : Int))), (0, .ref b)]) rfl rfl (by intro q hq; simp only [List.mem_cons, List.not_mem_nil, or_false] at hq; rcases hq with rfl | rfl | rfl <;> rfl) ?_
        refine pe_mono (fun r9 w9 z9 => ?_) (ih (p + 1) (c + 1) R9 (by omega) (by omega) hR9)
        obtain ⟨S9, c9, g1, g2, g3, g4⟩ := z9
        exact ⟨S9, c9, ⟨R9, c + 1, hR9, hs9, g1⟩, g2, g3, g4⟩
    · skip
      refine pe_go rfl (s_ifeq_false (decide_eq_false b1)) ?_
      refine pe_go (pc := 46) rfl (s_iinc (x := (p : Int)) (y := ((p + 1 : Nat) : Int)) rfl (by omega) (lv' := [(2, .int (iI ((p + 1 : Nat) : Int))), (1, .int (iI (c : Int))), (0, .ref b)]) rfl) ?_
      refine pe_go (pc := 49) rfl s_goto ?_
      refine pe_few (lv := [(2, .int (iI ((p + 1 : Nat) : Int))), (1, .int (iI (c : Int))), (0, .ref b)]) rfl rfl (by intro q hq; simp only [List.mem_cons, List.not_mem_nil, or_false] at hq; rcases hq with rfl | rfl | rfl <;> rfl) ?_
      refine pe_mono (fun r9 w9 z9 => ?_) (ih (p + 1) (c) S (by omega) (by omega) hS)
      obtain ⟨S9, c9, g1, g2, g3, g4⟩ := z9
      exact ⟨S9, c9, ⟨S, c, hS, (Or.inr ⟨(fun z => absurd z.1 (by assumption)), ⟨rfl, rfl, rfl, rfl, rfl, rfl, rfl, rfl, rfl⟩, rfl⟩), g1⟩, g2, g3, g4⟩
theorem o_smooth {pre post : pW} {b : Nat} (hb : pre.length = b) {S : St} {L M : List St} {K : St} {w : pW} (hO : OB pre post b S L M K w)  : qC 96 [.ref b] w (fun r w' => ∃ (S' : St) (c : Nat), smR 36 4 S 0 S' c ∧ r = some (.int (iI (c : Int))) ∧ OB pre post b S' (pshL S L) M K w') := by
  obtain ⟨hS, hLo, hLl, hMo, hMl, pn, pb, rn, rb, cl, kp, kr, rfl⟩ := hO
  refine pc_run (lv := [(0, .ref b)]) rfl ?_
  refine pe_go (pc := 0) rfl (s_aload_n rfl) ?_
  refine pe_go (pc := 1) rfl (s_getf (v := .ref (b + 1 + 34)) (gO hb) rfl) ?_
  refine pe_go (pc := 4) rfl (s_aload_n rfl) ?_
  refine pe_go (pc := 5) rfl (s_getf (v := .ref (b + 1)) (gO hb) rfl) ?_
  refine pe_call rfl (s_invV rfl (gA (oC_len hb) oX_P) rfl rfl) (c_push hb S (k := L.length) hLl) ?_
  refine pe_go (pc := 11) rfl (s_iconst (z := 0) rfl) ?_
  refine pe_go (pc := 12) rfl (s_istore_n (lv' := [(1, .int (iI 0)), (0, .ref b)]) rfl) ?_
  refine pe_go (pc := 13) rfl (s_iconst (z := 4) rfl) ?_
  refine pe_go (pc := 14) rfl (s_istore_n (lv' := [(2, .int (iI 4)), (1, .int (iI 0)), (0, .ref b)]) rfl) ?_
  refine pe_few (lv := [(2, .int (iI ((4 : Nat) : Int))), (1, .int (iI ((0 : Nat) : Int))), (0, .ref b)]) rfl rfl (by intro q hq; simp only [List.mem_cons, List.not_mem_nil, or_false] at hq; rcases hq with rfl | rfl | rfl <;> rfl) ?_
  refine pe_mono (fun r9 w9 z9 => ?_) (l_smooth hb 36 4 0 S (by omega) (by omega) hS)
  obtain ⟨S9, c9, g1, g2, g3, rfl⟩ := z9
  exact ⟨S9, c9, g1, g2, OB_push hS g3 hLo hLl hMo hMl kp kr⟩
