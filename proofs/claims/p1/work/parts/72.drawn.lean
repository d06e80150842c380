/-! THE REFERENCE DRAWS POINTS: the loop. Rows laid by program (wip/tools/lay.py, mk72.py). -/
theorem fnF_lo {f : Nat → Int32} {p q j : Nat} {v : Int32} (h : j < 3) : fnF f p q v j = f j := by
  unfold fnF upd
  rw [if_neg (by omega), if_neg (by omega)]
theorem tStep_lo {f : Nat → Int32} {k p q j : Nat} {x y : Int32} (h : j < 3) : tStep f k x y p q j = f j := by
  cases hc : (!(decide (fxF f p q = 0)) && betwF f p q x y) with
  | false => rw [tS_n hc]
  | true => rw [tS_y hc, fnF_lo h, fnF_lo h, fnF_lo h]
theorem tRow_lo {k p j : Nat} {x y : Int32} (h : j < 3) : ∀ {m q : Nat} {f : Nat → Int32}, tRow k x y p m q f j = f j := by
  intro m
  induction m with
  | zero => intro q f; rfl
  | succ m ih => intro q f; rw [tR_s, ih, tStep_lo h]
theorem tAll_lo {k j : Nat} {x y : Int32} (h : j < 3) : ∀ {m p : Nat} {f : Nat → Int32}, tAll k x y m p f j = f j := by
  intro m
  induction m with
  | zero => intro p f; rfl
  | succ m ih => intro p f; rw [tA_s, ih, tRow_lo h]
theorem tnF_lo {f : Nat → Int32} {k j : Nat} {x y : Int32} (h : j < 3) : tnF f k x y j = f j := by
  unfold tnF taF
  unfold upd
  rw [if_neg (by omega), tAll_lo h]
  unfold laF upd
  rw [if_neg (by omega), if_neg (by omega), if_neg (by omega)]
/-- the place drawn, the row behind two drawings -/
def dX (m g : Nat) : Int32 := nI (dG g % (2 * m + 1)) - nI m
def dF2 (f : Nat → Int32) (g : Nat) : Nat → Int32 := upd (upd f 2 (nI (dG g))) 2 (nI (dG (dG g)))
def dHit (f : Nat → Int32) (m g : Nat) : Bool := decide (frG (dF2 f g) 36 4 < 40) && decide (ptG (dF2 f g) (dX m g) (dX m (dG g)) 40 0 = 4294967295)
def dNew (f : Nat → Int32) (m g : Nat) : Nat → Int32 := bif dHit f m g then tnF (dF2 f g) (frG (dF2 f g) 36 4) (dX m g) (dX m (dG g)) else dF2 f g
def dAll (m : Nat) : Nat → (Nat → Int32) → Nat → Nat → (Nat → Int32) × Nat
  | 0, f, _, came => (f, came)
  | n + 1, f, g, came => dAll m n (dNew f m g) (dG (dG g)) (bif dHit f m g then came + 1 else came)
theorem dNew_2 {f : Nat → Int32} {m g : Nat} : dNew f m g 2 = nI (dG (dG g)) := by
  unfold dNew
  have e : dF2 f g 2 = nI (dG (dG g)) := by
    unfold dF2 upd
    rw [if_pos rfl]
  cases dHit f m g with
  | false => exact e
  | true => rw [cond_true, tnF_lo (by decide), e]
theorem dG_lt {g : Nat} : dG g < 30047 := Nat.mod_lt _ (by decide)
/-- telling what was drawn: the number or none, the row behind it -/
theorem r_tellD {w : pW} {o c : Nat} {fs : List Value} {f : Nat → Int32} (ho : w[o]? = some (.inr (9, .ref c :: fs))) (hoc : o ≠ c) (hcl : c < w.length) {m g : Nat} : ∃ r : Nat, r < 2 ^ 32 ∧ pRun 230 [.ref o, .int (dX m g), .int (dX m (dG g))] (gA w c (dF2 f g)) (some (.int (nI r))) (gA w c (dNew f m g)) ∧ (nI r = nI 4294967295 ↔ dHit f m g = false) := by
  rcases frG_le (f := dF2 f g) (m := 36) (k := 4) (by omega) with h1 | h1
  · rcases ptG_le (f := dF2 f g) (x := dX m g) (y := dX m (dG g)) (m := 40) (k := 0) (by omega) with h2 | h2
    · have hh : dHit f m g = false := by
        unfold dHit
        rw [decide_eq_false (p := ptG (dF2 f g) (dX m g) (dX m (dG g)) 40 0 = 4294967295) (by omega), Bool.and_false]
      have e : dNew f m g = dF2 f g := by
        unfold dNew
        rw [hh]
        rfl
      rw [e]
      exact ⟨4294967295, by decide, r_tellNew1 ho hoc hcl h1 h2, fun _ => hh, fun _ => rfl⟩
    · have hh : dHit f m g = true := by
        unfold dHit
        rw [decide_eq_true h1, decide_eq_true h2]
        rfl
      have e : dNew f m g = tnF (dF2 f g) (frG (dF2 f g) 36 4) (dX m g) (dX m (dG g)) := by
        unfold dNew
        rw [hh]
        rfl
      rw [e]
      exact ⟨_, by omega, r_tellNew2 ho hoc hcl rfl h1 h2, fun z => absurd z (nI_none (by omega)), fun z => by rw [hh] at z; cases z⟩
  · have hh : dHit f m g = false := by
      unfold dHit
      rw [decide_eq_false (p := frG (dF2 f g) 36 4 < 40) (by omega), Bool.false_and]
    have e : dNew f m g = dF2 f g := by
      unfold dNew
      rw [hh]
      rfl
    rw [e]
    exact ⟨4294967295, by decide, r_tellNew0 ho hoc hcl h1, fun _ => hh, fun _ => rfl⟩
theorem l_drawn {w : pW} {o c : Nat} {fs : List Value} (ho : w[o]? = some (.inr (9, .ref c :: fs))) (hoc : o ≠ c) (hcl : c < w.length) {n m : Nat} {r0 : Option Value} {w1 : pW} (hn : n ≤ 20) (hm : m ≤ 1000) : ∀ (d i came g : Nat) (f : Nat → Int32), i + d = n → came ≤ i → f 2 = nI g → g < 30047 → pRest 245 (78, [(3, .int (nI (dAll m d f g came).2)), (0, .ref o)], [], gA w c (dAll m d f g came).1) r0 w1 → pRest 245 (32, [(4, .int (nI i)), (3, .int (nI came)), (0, .ref o), (1, .int (nI n)), (2, .int (nI m))], [], gA w c f) r0 w1 := by
  intro d
  induction d with
  | zero =>
    intro i came g f hi0 hc hg hb K
    obtain rfl : i = n := by omega
    have K : pRest 245 (78, [(3, .int (nI came)), (0, .ref o)], [], gA w c f) r0 w1 := K
    refine pr_go rfl (s_iload rfl) ?_
    refine pr_go rfl (s_iload_n rfl) ?_
    refine pr_go rfl (s_icmp_ge_t ((nI_leI (by omega) (by omega)).mpr (by omega))) ?_
    exact pr_less (lvLe_of rfl rfl (by repeat' (first | exact (fun _ h => absurd h List.not_mem_nil) | refine List.forall_mem_cons.mpr ⟨rfl, ?_⟩))) (K)
  | succ d ih =>
    intro i came g f hi0 hc hg hb K
    obtain ⟨r, hr2, hr, hi⟩ := r_tellD ho hoc hcl (f := f) (m := m) (g := g)
    cases hh : dHit f m g with
    | false =>
      have K2 := ih (i + 1) came (dG (dG g)) (dNew f m g) (by omega) (by omega) dNew_2 dG_lt (by
        have K : pRest 245 (78, [(3, .int (nI (dAll m d (dNew f m g) (dG (dG g)) (bif dHit f m g then came + 1 else came)).2)), (0, .ref o)], [], gA w c (dAll m d (dNew f m g) (dG (dG g)) (bif dHit f m g then came + 1 else came)).1) r0 w1 := K
        rw [hh] at K
        exact K)
      refine pr_go rfl (s_iload rfl) ?_
      refine pr_go rfl (s_iload_n rfl) ?_
      refine pr_go rfl (s_icmp_ge_f (fun e => absurd ((nI_leI (by omega) (by omega)).mp e) (by omega))) ?_
      refine pr_go rfl (s_aload_n rfl) ?_
      refine pr_go rfl (s_iload_n rfl) ?_
      refine pr_call rfl (s_invV rfl (g_o ho hoc) rfl rfl) (r_draw ho hoc hcl hg hb (by omega)) ?_
      refine pr_go rfl (s_istore (lv' := [(5, .int (dX m g)), (4, .int (nI i)), (3, .int (nI came)), (0, .ref o), (1, .int (nI n)), (2, .int (nI m))]) rfl) ?_
      refine pr_go rfl (s_aload_n rfl) ?_
      refine pr_go rfl (s_iload_n rfl) ?_
      refine pr_call rfl (s_invV rfl (g_o ho hoc) rfl rfl) (r_draw ho hoc hcl (f := upd f 2 (nI (dG g))) (g := dG g) (by unfold upd; rw [if_pos rfl]) dG_lt (by omega)) ?_
      refine pr_go rfl (s_istore (lv' := [(6, .int (dX m (dG g))), (5, .int (dX m g)), (4, .int (nI i)), (3, .int (nI came)), (0, .ref o), (1, .int (nI n)), (2, .int (nI m))]) rfl) ?_
      refine pr_go rfl (s_iload_n rfl) ?_
      refine pr_go rfl (s_aload_n rfl) ?_
      refine pr_go rfl (s_iload rfl) ?_
      refine pr_go rfl (s_iload rfl) ?_
      refine pr_call rfl (s_invV rfl (g_o ho hoc) rfl rfl) (hr) ?_
      refine pr_go rfl s_iconst ?_
      refine pr_go rfl (s_icmp_ne_f (fun z => z (hi.mpr hh))) ?_
      refine pr_go rfl s_iconst ?_
      refine pr_go rfl s_goto ?_
      refine pr_go rfl (s_iaddN (c := came) rfl) ?_
      refine pr_go rfl (s_istore_n (lv' := [(3, .int (nI came)), (6, .int (dX m (dG g))), (5, .int (dX m g)), (4, .int (nI i)), (0, .ref o), (1, .int (nI n)), (2, .int (nI m))]) rfl) ?_
      refine pr_go rfl (s_iincN (y := nI (i + 1)) rfl (nI_add _ _) (lv' := [(4, .int (nI (i + 1))), (3, .int (nI came)), (6, .int (dX m (dG g))), (5, .int (dX m g)), (0, .ref o), (1, .int (nI n)), (2, .int (nI m))]) rfl) ?_
      refine pr_go rfl s_goto ?_
      exact pr_less (lvLe_of rfl rfl (by repeat' (first | exact (fun _ h => absurd h List.not_mem_nil) | refine List.forall_mem_cons.mpr ⟨rfl, ?_⟩))) (K2)
    | true =>
      have K2 := ih (i + 1) (came + 1) (dG (dG g)) (dNew f m g) (by omega) (by omega) dNew_2 dG_lt (by
        have K : pRest 245 (78, [(3, .int (nI (dAll m d (dNew f m g) (dG (dG g)) (bif dHit f m g then came + 1 else came)).2)), (0, .ref o)], [], gA w c (dAll m d (dNew f m g) (dG (dG g)) (bif dHit f m g then came + 1 else came)).1) r0 w1 := K
        rw [hh] at K
        exact K)
      refine pr_go rfl (s_iload rfl) ?_
      refine pr_go rfl (s_iload_n rfl) ?_
      refine pr_go rfl (s_icmp_ge_f (fun e => absurd ((nI_leI (by omega) (by omega)).mp e) (by omega))) ?_
      refine pr_go rfl (s_aload_n rfl) ?_
      refine pr_go rfl (s_iload_n rfl) ?_
      refine pr_call rfl (s_invV rfl (g_o ho hoc) rfl rfl) (r_draw ho hoc hcl hg hb (by omega)) ?_
      refine pr_go rfl (s_istore (lv' := [(5, .int (dX m g)), (4, .int (nI i)), (3, .int (nI came)), (0, .ref o), (1, .int (nI n)), (2, .int (nI m))]) rfl) ?_
      refine pr_go rfl (s_aload_n rfl) ?_
      refine pr_go rfl (s_iload_n rfl) ?_
      refine pr_call rfl (s_invV rfl (g_o ho hoc) rfl rfl) (r_draw ho hoc hcl (f := upd f 2 (nI (dG g))) (g := dG g) (by unfold upd; rw [if_pos rfl]) dG_lt (by omega)) ?_
      refine pr_go rfl (s_istore (lv' := [(6, .int (dX m (dG g))), (5, .int (dX m g)), (4, .int (nI i)), (3, .int (nI came)), (0, .ref o), (1, .int (nI n)), (2, .int (nI m))]) rfl) ?_
      refine pr_go rfl (s_iload_n rfl) ?_
      refine pr_go rfl (s_aload_n rfl) ?_
      refine pr_go rfl (s_iload rfl) ?_
      refine pr_go rfl (s_iload rfl) ?_
      refine pr_call rfl (s_invV rfl (g_o ho hoc) rfl rfl) (hr) ?_
      refine pr_go rfl s_iconst ?_
      refine pr_go rfl (s_icmp_ne_t (fun z => by rw [hi.mp z] at hh; cases hh)) ?_
      refine pr_go rfl s_iconst ?_
      refine pr_go rfl (s_iaddN (c := came + 1) rfl) ?_
      refine pr_go rfl (s_istore_n (lv' := [(3, .int (nI (came + 1))), (6, .int (dX m (dG g))), (5, .int (dX m g)), (4, .int (nI i)), (0, .ref o), (1, .int (nI n)), (2, .int (nI m))]) rfl) ?_
      refine pr_go rfl (s_iincN (y := nI (i + 1)) rfl (nI_add _ _) (lv' := [(4, .int (nI (i + 1))), (3, .int (nI (came + 1))), (6, .int (dX m (dG g))), (5, .int (dX m g)), (0, .ref o), (1, .int (nI n)), (2, .int (nI m))]) rfl) ?_
      refine pr_go rfl s_goto ?_
      exact pr_less (lvLe_of rfl rfl (by repeat' (first | exact (fun _ h => absurd h List.not_mem_nil) | refine List.forall_mem_cons.mpr ⟨rfl, ?_⟩))) (K2)
theorem inB_n {k a b : Nat} (h1 : a ≤ k) (h2 : k ≤ b) (hb : b < 2 ^ 31) : inB (nI k) (nI a) (nI b) = true := by
  unfold inB
  rw [decide_eq_false (p := nI k < nI a) (fun e => absurd ((nI_ltI (by omega) (by omega)).mp e) (by omega)), decide_eq_false (p := nI b < nI k) (fun e => absurd ((nI_ltI (by omega) (by omega)).mp e) (by omega))]
  rfl
theorem r_drawnG {w : pW} {o c : Nat} {fs : List Value} {f : Nat → Int32} (ho : w[o]? = some (.inr (9, .ref c :: fs))) (hoc : o ≠ c) (hcl : c < w.length) {n m g : Nat} (hn1 : 1 ≤ n) (hn : n ≤ 20) (hm1 : 1 ≤ m) (hm : m ≤ 1000) (h0 : f 0 = nI 0) (h1 : f 1 = nI 0) (hg : f 2 = nI g) (hb : g < 30047) {w1 : pW} (hlay : pRun 219 [.ref o] (gA w c (dAll m n (upd (kpF f 1778) 0 (nI 1)) g 0).1) none w1) : pRun 245 [.ref o, .int (nI n), .int (nI m)] (gA w c f) (some (.int (nI (dAll m n (upd (kpF f 1778) 0 (nI 1)) g 0).2))) w1 := by
  have hi1 := inB_n hn1 hn (by decide)
  have hi2 := inB_n hm1 hm (by decide)
  have hg2 : upd (kpF f 1778) 0 (nI 1) 2 = nI g := by
    unfold upd
    rw [if_neg (by decide), kp_lo (by decide), hg]
  refine pr_run rfl ?_
  refine pr_go rfl (s_iload_n rfl) ?_
  refine pr_go rfl s_iconst ?_
  refine pr_go rfl s_bipush ?_
  refine pr_call rfl (s_invS rfl rfl rfl) (r_isIn) ?_
  refine pr_go rfl (s_if_eq_f (by rw [hi1]; decide)) ?_
  refine pr_go rfl (s_iload_n rfl) ?_
  refine pr_go rfl s_iconst ?_
  refine pr_go rfl s_sipush ?_
  refine pr_call rfl (s_invS rfl rfl rfl) (r_isIn) ?_
  refine pr_go rfl (s_if_ne_t (by rw [hi2]; decide)) ?_
  refine pr_go rfl (s_aload_n rfl) ?_
  refine pr_call rfl (s_invV rfl (g_o ho hoc) rfl rfl) (r_keep0 ho hoc hcl h0 h1) ?_
  refine pr_go rfl s_iconst ?_
  refine pr_go rfl (s_istore_n (lv' := [(3, .int (nI 0)), (0, .ref o), (1, .int (nI n)), (2, .int (nI m))]) rfl) ?_
  refine pr_go rfl s_iconst ?_
  refine pr_go rfl (s_istore (lv' := [(4, .int (nI 0)), (3, .int (nI 0)), (0, .ref o), (1, .int (nI n)), (2, .int (nI m))]) rfl) ?_
  refine l_drawn ho hoc hcl hn hm n 0 0 g _ (by omega) (by omega) hg2 hb ?_
  refine pr_go rfl (s_aload_n rfl) ?_
  refine pr_call rfl (s_invV rfl (g_o ho hoc) rfl rfl) (hlay) ?_
  refine pr_go rfl (s_iload_n rfl) ?_
  exact pr_retE (r' := some (.int (nI (dAll m n (upd (kpF f 1778) 0 (nI 1)) g 0).2))) rfl s_retI rfl
theorem rW_len {A : pW} {R : RS} : A.length + 1 < (rW A R).length := by
  unfold rW rC
  rw [List.length_append]
  show A.length + 1 < A.length + 15
  omega
/-- a whole call of drawn on the reference, as far as the mesh can be laid -/
theorem r_drawnR {A : pW} {R : RS} {n m g : Nat} (hn1 : 1 ≤ n) (hn : n ≤ 20) (hm1 : 1 ≤ m) (hm : m ≤ 1000) (h0 : R.a 0 = nI 0) (h1 : R.a 1 = nI 0) (hg : R.a 2 = nI g) (hb : g < 30047) {L : List Tri} (hl : layF (dAll m n (upd (kpF R.a 1778) 0 (nI 1)) g 0).1 = some L) (hgd : good L) : ∃ R' : RS, pRun 245 [.ref A.length, .int (nI n), .int (nI m)] (rW A R) (some (.int (nI (dAll m n (upd (kpF R.a 1778) 0 (nI 1)) g 0).2))) (rW A R') := by
  have key := r_drawnG (w := rW A R) (o := A.length) (c := A.length + 1) (f := R.a) rg_o (by omega) rW_len hn1 hn hm1 hm h0 h1 hg hb (w1 := rW A (RO (R.u_a (dAll m n (upd (kpF R.a 1778) 0 (nI 1)) g 0).1) (R.u_a (dAll m n (upd (kpF R.a 1778) 0 (nI 1)) g 0).1).tr (flF (nI 4294967295) (R.u_a (dAll m n (upd (kpF R.a 1778) 0 (nI 1)) g 0).1).lf 1600) L)) (by
    have e : gA (rW A R) (A.length + 1) (dAll m n (upd (kpF R.a 1778) 0 (nI 1)) g 0).1 = rW A (R.u_a (dAll m n (upd (kpF R.a 1778) 0 (nI 1)) g 0).1) := rs_a
    rw [e]
    exact r_layMesh hl hgd)
  have e : gA (rW A R) (A.length + 1) R.a = rW A R := rs_a
  rw [e] at key
  exact ⟨_, key⟩
