/-! THE LAW FROM ITS ENTRY, out of what is owed of the runs. By program (wip/tools/mk81.py). -/
theorem pU_in0 (ci : Nat) (q : vw_C) (h : vwCl[ci]? = some q) : ∀ w ∈ u_ws q.1 q.2.1 q.2.2, w ∈ pG0 := by
  intro w hw
  obtain ⟨⟨ps, hps⟩, hg⟩ := pU_all q (List.mem_of_getElem? h)
  refine List.mem_filter.mpr ⟨?_, List.all_eq_true.mp hg w hw⟩
  rw [hps] at hw
  obtain ⟨k, -, hk⟩ := List.mem_filterMap.mp hw
  exact pBl_in (List.mem_of_getElem? hk)
theorem pInst : ∀ (k : Nat) (q : vw_C), vwCl[k]? = some q → Cond.instantiable q.1 q.2.2 ∈ pG0 := by
  intro k q hq
  match k, hq with
  | 0, hq => obtain ⟨c9, h1, -, h2, -⟩ := pnw_8; cases hq.symm.trans h1; exact h2
  | 1, hq => obtain ⟨c9, h1, -, h2, -⟩ := pnw_1; cases hq.symm.trans h1; exact h2
  | 2, hq => obtain ⟨c9, h1, -, h2, -⟩ := pnw_6; cases hq.symm.trans h1; exact h2
  | 3, hq => obtain ⟨c9, h1, -, h2, -⟩ := pnw_3; cases hq.symm.trans h1; exact h2
  | 4, hq => obtain ⟨c9, h1, -, h2, -⟩ := pnw_4; cases hq.symm.trans h1; exact h2
  | 5, hq => obtain ⟨c9, h1, -, h2, -⟩ := pnw_2; cases hq.symm.trans h1; exact h2
  | 6, hq => obtain ⟨c9, h1, -, h2, -⟩ := pnw_7; cases hq.symm.trans h1; exact h2
  | 7, hq => obtain ⟨c9, h1, -, h2, -⟩ := pnw_5; cases hq.symm.trans h1; exact h2
  | 8, hq => obtain ⟨c9, h1, -, h2, -⟩ := pnw_0; cases hq.symm.trans h1; exact h2
  | 9, hq => obtain ⟨c9, h1, -, h2, -⟩ := pnw_9; cases hq.symm.trans h1; exact h2
  | k + 10, hq => simp [vwCl] at hq
theorem and63 (v : Int32) : ∃ k : Nat, k < 64 ∧ v &&& 63 = nI k := by
  refine ⟨(v.toBitVec &&& 63#32).toNat, ?_, ?_⟩
  · rw [BitVec.toNat_and]
    have : v.toBitVec.toNat &&& (63#32).toNat ≤ (63#32).toNat := Nat.and_le_right
    have h2 : (63#32).toNat = 63 := rfl
    omega
  · apply Int32.toBitVec_inj.mp
    show v.toBitVec &&& 63#32 = BitVec.ofNat 32 (v.toBitVec &&& 63#32).toNat
    rw [BitVec.ofNat_toNat, BitVec.setWidth_eq]
theorem pnwL_0 : pNwF (21, 7, 8, 0, 0, 0) := pnw_0
theorem pnwL_9 : pNwF (21, 10, 9, 0, 0, 0) := pnw_9
def lCell (ci n : Nat) : pCell := .inr (ci, (List.range n).map (fun j => defaultValue (pTf ci j)))
/-- what is owed of the k-th call of the law -/
def lOweK (pA : Nat) (w0 : pW) (k : Nat) (a : Nat → Int32) : Prop := match k with
  | 0 => lOweI pA w0 115 232 [.int (a 1), .int (a 2)]
  | 1 => lOweI pA w0 116 236 [.int (a 1)]
  | 2 => lOweI pA w0 117 238 [.int (a 1), .int (a 2), .int (a 3)]
  | 3 => lOweI pA w0 118 241 [.int (a 1), .int (a 2)]
  | 4 => lOweI pA w0 119 243 [.int (a 1), .int (a 2)]
  | 5 => lOweI pA w0 120 245 [.int (a 1), .int (a 2)]
  | 6 => lOweI pA w0 121 246 [.int (a 1), .int (a 2)]
  | 7 => lOweI pA w0 122 253 [.int (a 1)]
  | 8 => lOweI pA w0 124 255 []
  | 9 => lOweI pA w0 126 226 [.int (a 1), .int (a 2)]
  | 10 => lOweI pA w0 127 227 []
  | 11 => lOweI pA w0 128 256 [.int (a 1)]
  | 12 => lOweI pA w0 129 228 []
  | 13 => lOweI pA w0 134 260 [.int (a 1)]
  | 14 => lOweI pA w0 136 262 [.int (a 1), .int (a 2)]
  | 15 => lOweI pA w0 137 263 [.int (a 1), .int (a 2)]
  | 16 => lOweI pA w0 138 265 [.int (a 1), .int (a 2)]
  | 17 => lOweI pA w0 139 267 [.int (a 1), .int (a 2)]
  | 18 => lOweI pA w0 140 268 [.int (a 1)]
  | 19 => lOweI pA w0 141 269 [.int (a 1), .int (a 2), .int (a 3)]
  | 20 => lOweI pA w0 142 271 [.int (a 1), .int (a 2)]
  | 21 => lOweI pA w0 143 272 [.int (a 1), .int (a 2)]
  | 22 => lOweI pA w0 144 275 [.int (a 1), .int (a 2)]
  | 23 => lOweI pA w0 145 276 [.int (a 1), .int (a 2)]
  | 24 => lOweI pA w0 146 278 [.int (a 1), .int (a 2), .int (a 3), .int (a 4)]
  | 25 => lOweI pA w0 147 282 [.int (a 1), .int (a 2)]
  | 26 => lOweL pA w0 148 284 [.int (a 1), .int (a 2)]
  | 27 => lOweI pA w0 149 285 [.int (a 1), .int (a 2)]
  | 28 => lOweI pA w0 151 286 [.int (a 1), .int (a 2)]
  | 29 => lOweL pA w0 152 287 [.int (a 1)]
  | 30 => lOweI pA w0 153 290 [.int (a 1)]
  | 31 => lOweI pA w0 154 291 [.int (a 1), .int (a 2)]
  | 32 => lOweI pA w0 156 310 [.int (a 1), .int (a 2)]
  | 33 => lOweI pA w0 157 312 [.int (a 1)]
  | 34 => lOweI pA w0 158 313 [.int (a 1)]
  | 35 => lOweI pA w0 163 315 [.int (a 1), .int (a 2)]
  | 36 => lOweI pA w0 164 316 [.int (a 1), .int (a 2), .int (a 3)]
  | 37 => lOweI pA w0 167 320 [.int (a 1)]
  | 38 => lOweI pA w0 159 321 []
  | 39 => lOweI pA w0 160 322 [.int (a 1), .int (a 2), .int (a 3)]
  | 40 => lOweI pA w0 165 307 [.int (a 1), .int (a 2), .int (a 3)]
  | 41 => lOweI pA w0 168 302 [.int (a 1)]
  | 42 => lOweI pA w0 166 304 [.int (a 1)]
  | 43 => lOweI pA w0 150 309 [.int (a 1), .int (a 2), .int (a 3), .int (a 4)]
  | 44 => lOweI pA w0 133 342 []
  | 45 => lOweI pA w0 155 297 []
  | 46 => lOweI pA w0 171 323 [.int (a 1), .int (a 2)]
  | 47 => lOweI pA w0 172 324 [.int (a 1)]
  | 48 => lOweI pA w0 173 326 [.int (a 1), .int (a 2)]
  | 49 => lOweL pA w0 174 327 []
  | 50 => lOweI pA w0 175 330 [.int (a 1), .int (a 2), .int (a 3), .int (a 4), .int (a 5)]
  | 51 => lOweI pA w0 176 332 [.int (a 1)]
  | 52 => lOweI pA w0 177 336 [.int (a 1), .int (a 2)]
  | 53 => lOweI pA w0 178 337 [.int (a 1)]
  | 54 => lOweI pA w0 179 338 [.int (a 1), .int (a 2)]
  | 55 => lOweI pA w0 180 339 [.int (a 1), .int (a 2)]
  | 56 => lOweL pA w0 161 340 []
  | 57 => lOweI pA w0 131 343 []
  | 58 => lOweI pA w0 132 344 []
  | 59 => lOweI pA w0 130 345 []
  | _ => True
/-- ALL THAT IS OWED: the two starts, and every call alike in both -/
def lOwed (wA w0 : pW) : Prop := pRun 114 [.ref 0] [lCell 8 10] none wA ∧ pRun 186 [.ref wA.length] (wA ++ [lCell 9 19]) none w0 ∧ w0.length ≤ 600000 ∧ pwsz w0 ≤ 7302250 ∧ ∀ (k : Nat) (a : Nat → Int32), lOweK wA.length w0 k a
section LAW2
variable {p : Program} {l : Launch} {e : Env} {s : State} {m : MethodId} {below : List Frame} {meth : Method} {c : Code} {D : va_G} {b bs L : Nat} {cA : Nat → ClassId} {xs : Nat → Int32} {Q : State → Prop}
theorem lnew {pc idx ci n e9 : Nat} {lv : pLv} {st : List Value} {w : pW} {C9 : vw_C} (C : lCtx p s m c D b bs L cA xs) (hd : decode code pc = .ok (.new idx, 3)) (hF : pNwF (21, idx, ci, n, e9, 0)) (hc9 : vwCl[ci]? = some C9) (h1 : w.length + 1 ≤ 600000) (h2 : pwsz w + C9.2.2 ≤ 7302250)
    (K : lK p l e s m below meth c D b bs cA Q (pc + 3) lv (.ref (b + w.length) :: st) (w ++ [lCell ci C9.2.2])) : lK p l e s m below meth c D b bs cA Q pc lv st w := by
  obtain ⟨hx, hb, hml, hown, hts, hK, hN, hsz, hX, hbl⟩ := C
  obtain ⟨c9, hc, hl1, hl2, hl3⟩ := hF
  cases hc9.symm.trans hc
  obtain ⟨tyf, ht1, ht2, ht3⟩ := pTy_all ci C9 hc9
  intro H locs ls hA hl
  have efs : ((List.range C9.2.2).map (fun j => defaultValue (pTf ci j))).map (pv b) = (List.range C9.2.2).map (fun j => defaultValue (pTf ci j)) := by
    rw [List.map_map]
    apply List.map_congr_left
    intro j _
    exact pv_default _
  refine va_new (D := D) (ci := ci) (fs := (List.range C9.2.2).map (fun j => defaultValue (pTf ci j))) (C := C9.1) (T := C9.2.1) (N := C9.2.2) hx hb hts (pU_in0 ci C9 hc9) tyf ht2 hown (hts _ hl1) (hts _ hl2) (hts _ hl3) hK hA.1 (pwv_D b cA w) hA.2 (fun q h => by show b ≤ q; omega) hc9 (fun j hj => ?_) h1 h2 hd (fun a H1 hP hD hS => ?_)
  · have htf : pTf ci j = tyf j := by
      unfold pTf
      rw [List.getD_eq_getElem?_getD, ht1]; rfl
    unfold vp_V
    rw [List.getD_eq_getElem?_getD, List.getElem?_map, List.getElem?_range hj]
    simp [htf]
  · refine W_sz fun hu => ?_
    have hlast : (pwv b cA w ++ [(a, .inr (ci, (List.range C9.2.2).map (fun j => defaultValue (pTf ci j))))])[w.length]? = some (a, .inr (ci, (List.range C9.2.2).map (fun j => defaultValue (pTf ci j)))) := by
      rw [List.getElem?_append_right (by rw [pwv_len]; exact Nat.le_refl _), pwv_len, Nat.sub_self]
      rfl
    have g1 : a < H1.size := (hP _ _ hlast).lt
    have g2 : b ≤ a := hD.2 _ _ hlast
    have ha : a = b + w.length := by
      rcases Nat.lt_or_ge a (b + w.length) with z | z
      · exfalso
        have hj : a - b < w.length := by omega
        have h3 : (pwv b cA w ++ [(a, .inr (ci, (List.range C9.2.2).map (fun j => defaultValue (pTf ci j))))])[a - b]? = some (b + (a - b), pcel b cA w[a - b]) := by
          rw [List.getElem?_append_left (by rw [pwv_len]; exact hj)]
          exact pwv_at (List.getElem?_eq_getElem hj)
        have := hD.1 _ _ _ _ h3 hlast (by show b + (a - b) = a; omega)
        omega
      · omega
    subst ha
    have e1 : pwv b cA w ++ [(b + w.length, .inr (ci, (List.range C9.2.2).map (fun j => defaultValue (pTf ci j))))] = pwv b cA (w ++ [lCell ci C9.2.2]) := by
      rw [pwv_app]
      unfold lCell pcel
      simp only [efs]
    rw [e1] at hP
    have := K H1 locs ls ⟨hP, hS⟩ hl
    simp only [List.length_append, List.length_singleton, pwsz_app] at this
    have e2 : pcsz (lCell ci C9.2.2) = C9.2.2 := by simp [lCell, pcsz]
    rw [e2] at this
    exact this
theorem ldup {pc : Nat} {lv : pLv} {st : List Value} {w : pW} {a : Nat} (C : lCtx p s m c D b bs L cA xs) (hd : decode code pc = .ok (.dup, 1)) (K : lK p l e s m below meth c D b bs cA Q (pc + 1) lv (.ref a :: .ref a :: st) w) : lK p l e s m below meth c D b bs cA Q pc lv (.ref a :: st) w := by
  intro H locs ls hA hl
  exact lv_dup C.1 C.2.1 hd rfl (K H locs ls hA hl)
end LAW2
set_option maxHeartbeats 4000000 in
set_option maxRecDepth 100000 in
/-- THE LAW, from its entry, if all that is owed of the runs is paid -/
theorem whole_start_of {p : Program} {e : Env} {s : State} {m : MethodId} {below : List Frame} {meth : Method} {c : Code} (l : Launch) {b L : Nat} {xs : Nat → Int32} (hL : L ≤ 6) (C0 : lw_At p s m meth c b L xs) {wA w0 : pW} (owed : lOwed wA w0) : W p l e room_1 s m #[Value.ref b] below meth c s.heap [] 0 0 (lw_Z below #[Value.ref b] s) (entryFrame m ([Value.ref b] : List Value).toArray 4) := by
  obtain ⟨hx, hb, hr, hml, hown, hts0, hX, hbl, hlocks, -⟩ := C0
  obtain ⟨r8, r9, z1, z2, owe⟩ := owed
  have hd0 := Drawn.sameBut.refl s.drawn lw_cs
  refine W.base ?_
  have hts := dr_words hts0 s.drawn
  have hG : ∀ w ∈ pG0, w.before #[Value.ref b] (s.setDrawn s.drawn) = true := fun w hw => hts w (pG0_in hw)
  have hN : ∀ x ∈ pN0, va_Nw x (s.setDrawn s.drawn) := fun x hx9 => va_Nw.of (by
    have h9 := (List.mem_filter.mp hx9).2
    unfold pNestW at h9
    split at h9
    · rfl
    · cases h9) (hts x (pN0_in hx9))
  have hD1 : ∀ k : Nat, ∃ z : ClassId × (Nat → Nat), ∀ q : vw_C, vwCl[k]? = some q → u_Kn (s.setDrawn s.drawn) q.1 q.2.1 q.2.2 z.1 z.2 := by
    intro k
    cases hq : vwCl[k]? with
    | none => exact ⟨(0, fun _ => 0), fun q h => by cases h⟩
    | some q =>
      obtain ⟨cC, iS, h⟩ := u_known (C := q.1) (T := q.2.1) (N := q.2.2) (n := q.2.2) hG (pU_in0 k q hq) (hG _ (pInst k q hq))
      exact ⟨(cC, iS), fun q2 h2 => by cases h2; exact h⟩
  have arr : ∀ ty : FieldType, Cond.arrayClass ty ∈ pG0 → ∃ A : ClassId, ArrOfT (s.setDrawn s.drawn) A ty ∧ (s.setDrawn s.drawn).vm.findClass ("[" ++ ty.toString) = some A := by
    intro ty hty
    obtain ⟨A, kA, comp, h1, h2, h3⟩ := Cond.arrayClass_spec (hG _ hty)
    exact ⟨A, fun n z => ⟨fun k h => (by cases h), kA, h2, comp, h3⟩, h1⟩
  obtain ⟨A0, a01, a02⟩ := arr .int pAc0
  obtain ⟨A1, a11, a12⟩ := arr .long pAc1
  obtain ⟨A2, a21, a22⟩ := arr .boolean pAc2
  obtain ⟨cA, e0, e1, e2⟩ : ∃ cA : Nat → ClassId, cA 0 = A0 ∧ cA 1 = A1 ∧ cA 2 = A2 := ⟨fun k => if k = 0 then A0 else if k = 1 then A1 else A2, rfl, rfl, rfl⟩
  have hK : va_K ((fun k => (Classical.choose (hD1 k)).1, fun k => (Classical.choose (hD1 k)).2) : va_G) vwCl (pTys cA) (s.setDrawn s.drawn) := by
    refine ⟨fun k q hq => Classical.choose_spec (hD1 k) q hq, fun k q hq => ?_⟩
    match k, hq with
    | 0, hq => cases hq; rw [e0]; exact ⟨a01, a02⟩
    | 1, hq => cases hq; rw [e1]; exact ⟨a11, a12⟩
    | 2, hq => cases hq; rw [e2]; exact ⟨a21, a22⟩
    | k + 3, hq => simp [pTys] at hq
  generalize hDD : ((fun k => (Classical.choose (hD1 k)).1, fun k => (Classical.choose (hD1 k)).2) : va_G) = D at hK
  have C : lCtx p (s.setDrawn s.drawn) m c D s.heap.size b L cA xs := ⟨hx, hb, hml, hown, hG, hK, hN, rfl, hX, hbl⟩
  have hbA : ¬ (s.heap.size ≤ b) := Nat.not_le.mpr hbl
  -- its end
  have hend : ∀ (lv : pLv) (w : pW), w.length ≤ 600000 → pwsz w ≤ 7302250 → lK p l e (s.setDrawn s.drawn) m below meth c D s.heap.size b cA (lw_Z below #[Value.ref b] s) 2028 lv [] w := by
    intro lv w g1 g2 H locs ls hA hl
    refine lv_iconst (v := 1) hx hb dl_2028 rfl ?_
    refine va_forget (fun q hq => hA.2.2.2 q hq) ?_
    refine W.widen (k := 600000) (n := 7302250) g1 g2 ?_
    exact lw_ret hd0 hx hb hr hlocks dl_2029
  -- behind the call: once more to the head, and out
  have hback : L = 6 → ∀ w2 : pW, w2.length ≤ 600000 → pwsz w2 ≤ 7302250 → lK p l e (s.setDrawn s.drawn) m below meth c D s.heap.size b cA (lw_Z below #[Value.ref b] s) 2022 (lLv s.heap.size wA.length) [] w2 := by
    intro h6 w2 g1 g2 H locs ls hA hl
    refine lv_iinc (k := 1) (x := 0) (v := 6) hx hb dl_2022 hl rfl (by decide) (by decide) rfl (fun ls1 hl1 => ?_)
    refine lv_goto (tgt := 18) hx hb dl_2025 (by decide) ?_
    refine lv_iload_n hx hb dl_18 rfl (lv_at hl1 0 rfl) ?_
    refine lv_aload_n hx hb dl_19 rfl (lv_at hl1 1 rfl) ?_
    refine va_slen hx hb hX hbl hbA hA.2 dl_20 ?_
    refine lv_bipush (v := 6) hx hb dl_21 (by decide) ?_
    refine lv_isub hx hb dl_23 ?_
    subst h6
    refine lv_icmp_gt (tgt := 2028) hx hb dl_24 (by decide) (fun _ => ?_) (fun h => absurd (by decide) h)
    exact hend [(3, .int 6), (2, .ref (s.heap.size + wA.length)), (1, .ref (s.heap.size + 0))] w2 g1 g2 H locs ls1 hA (lv_sub hl1 [1, 0, 2, 3] rfl)
  -- the head
  have hhead : lK p l e (s.setDrawn s.drawn) m below meth c D s.heap.size b cA (lw_Z below #[Value.ref b] s) 18 (lLv s.heap.size wA.length) [] w0 := by
    intro H locs ls hA hl
    refine lv_iload_n hx hb dl_18 rfl (lv_at hl 1 rfl) ?_
    refine lv_aload_n hx hb dl_19 rfl (lv_at hl 0 rfl) ?_
    refine va_slen hx hb hX hbl hbA hA.2 dl_20 ?_
    refine lv_bipush (v := 6) hx hb dl_21 (by decide) ?_
    refine lv_isub hx hb dl_23 ?_
    refine lv_icmp_gt (tgt := 2028) hx hb dl_24 (by decide) (fun _ => ?_) (fun hgt => ?_)
    · exact hend _ w0 z1 z2 H locs ls hA hl
    · have h6 : L = 6 := by
        rcases (show L = 0 ∨ L = 1 ∨ L = 2 ∨ L = 3 ∨ L = 4 ∨ L = 5 ∨ L = 6 by omega) with h | h | h | h | h | h | h
        · subst h; exact absurd (by decide) hgt
        · subst h; exact absurd (by decide) hgt
        · subst h; exact absurd (by decide) hgt
        · subst h; exact absurd (by decide) hgt
        · subst h; exact absurd (by decide) hgt
        · subst h; exact absurd (by decide) hgt
        · exact h
      have hgo := hback h6
      refine lv_aload_n hx hb dl_27 rfl (lv_at hl 0 rfl) ?_
      refine lv_iload_n hx hb dl_28 rfl (lv_at hl 1 rfl) ?_
      have hin : vp_in (0 : Int32) L := by rw [← nI_0]; exact vp_in_nI (by omega) (by omega)
      refine va_sld hx hb hX hbl hbA hA.2 hin dl_29 ?_
      refine lv_bipush (v := 63) hx hb dl_30 (by decide) ?_
      refine lv_iand hx hb dl_32 ?_
      obtain ⟨k, hk64, hk⟩ := and63 (xs (0 : Int32).toNatClampNeg)
      rw [hk]
      have hle : pLe (wA ++ [lCell 9 19]) w0 := by
        obtain ⟨nn, r9⟩ := r9
        exact pGo_m _ _ _ _ _ r9
      have hkp : pKp [lCell 8 10] w0 := by
        obtain ⟨n8, r8⟩ := r8
        obtain ⟨n9, r9⟩ := r9
        exact ((pGo_p _ _ _ _ _ r8).tr pKp.app).tr (pGo_p _ _ _ _ _ r9)
      obtain ⟨f8, hw8⟩ := hkp 0 8 _ rfl
      have hkp9 : pKp (wA ++ [lCell 9 19]) w0 := by
        obtain ⟨n9, r9⟩ := r9
        exact pGo_p _ _ _ _ _ r9
      obtain ⟨f9, hw9⟩ := hkp9 wA.length 9 ((List.range 19).map (fun j => defaultValue (pTf 9 j))) (by rw [List.getElem?_append_right (Nat.le_refl _), Nat.sub_self]; rfl)
      have hL6 : 6 ≤ L := by omega
      have ow := owe k xs
      clear hk hkp hkp9 hle r8 r9 owe hend hback
      match k, hk64, ow with
      | 0, _, ow => exact lv_tableIn (tgt := 288) hx hb dl_33 (by decide) (by decide) rfl rfl (lcase2i (pc := 288) C hL hL6 hw8 hw9 (ex := 33) (em := 289) (by decide +kernel) (by decide +kernel) dl_288 dl_289 dl_290 dl_291 dl_292 dl_293 dl_294 dl_295 dl_296 dl_297 dl_298 dl_299 dl_302 dl_303 dl_304 dl_305 dl_306 dl_307 dl_308 dl_309 dl_310 dl_311 dl_312 dl_313 dl_316 (by decide) ow hgo H locs ls hA hl)
      | 1, _, ow => exact lv_tableIn (tgt := 321) hx hb dl_33 (by decide) (by decide) rfl rfl (lcase1i (pc := 321) C hL hL6 hw8 hw9 (ex := 66) (em := 295) (by decide +kernel) (by decide +kernel) dl_321 dl_322 dl_323 dl_324 dl_325 dl_326 dl_327 dl_330 dl_331 dl_332 dl_333 dl_334 dl_335 dl_336 dl_339 (by decide) ow hgo H locs ls hA hl)
      | 2, _, ow => exact lv_tableIn (tgt := 344) hx hb dl_33 (by decide) (by decide) rfl rfl (lcase3i (pc := 344) C hL hL6 hw8 hw9 (ex := 75) (em := 299) (by decide +kernel) (by decide +kernel) dl_344 dl_345 dl_346 dl_347 dl_348 dl_349 dl_350 dl_351 dl_352 dl_353 dl_354 dl_355 dl_356 dl_357 dl_358 dl_359 dl_360 dl_363 dl_364 dl_365 dl_366 dl_367 dl_368 dl_369 dl_370 dl_371 dl_372 dl_373 dl_374 dl_375 dl_376 dl_377 dl_378 dl_379 dl_382 (by decide) ow hgo H locs ls hA hl)
      | 3, _, ow => exact lv_tableIn (tgt := 387) hx hb dl_33 (by decide) (by decide) rfl rfl (lcase2i (pc := 387) C hL hL6 hw8 hw9 (ex := 79) (em := 301) (by decide +kernel) (by decide +kernel) dl_387 dl_388 dl_389 dl_390 dl_391 dl_392 dl_393 dl_394 dl_395 dl_396 dl_397 dl_398 dl_401 dl_402 dl_403 dl_404 dl_405 dl_406 dl_407 dl_408 dl_409 dl_410 dl_411 dl_412 dl_415 (by decide) ow hgo H locs ls hA hl)
      | 4, _, ow => exact lv_tableIn (tgt := 420) hx hb dl_33 (by decide) (by decide) rfl rfl (lcase2i (pc := 420) C hL hL6 hw8 hw9 (ex := 92) (em := 304) (by decide +kernel) (by decide +kernel) dl_420 dl_421 dl_422 dl_423 dl_424 dl_425 dl_426 dl_427 dl_428 dl_429 dl_430 dl_431 dl_434 dl_435 dl_436 dl_437 dl_438 dl_439 dl_440 dl_441 dl_442 dl_443 dl_444 dl_445 dl_448 (by decide) ow hgo H locs ls hA hl)
      | 5, _, ow => exact lv_tableIn (tgt := 453) hx hb dl_33 (by decide) (by decide) rfl rfl (lcase2i (pc := 453) C hL hL6 hw8 hw9 (ex := 95) (em := 306) (by decide +kernel) (by decide +kernel) dl_453 dl_454 dl_455 dl_456 dl_457 dl_458 dl_459 dl_460 dl_461 dl_462 dl_463 dl_464 dl_467 dl_468 dl_469 dl_470 dl_471 dl_472 dl_473 dl_474 dl_475 dl_476 dl_477 dl_478 dl_481 (by decide) ow hgo H locs ls hA hl)
      | 6, _, ow => exact lv_tableIn (tgt := 486) hx hb dl_33 (by decide) (by decide) rfl rfl (lcase2i (pc := 486) C hL hL6 hw8 hw9 (ex := 97) (em := 308) (by decide +kernel) (by decide +kernel) dl_486 dl_487 dl_488 dl_489 dl_490 dl_491 dl_492 dl_493 dl_494 dl_495 dl_496 dl_497 dl_500 dl_501 dl_502 dl_503 dl_504 dl_505 dl_506 dl_507 dl_508 dl_509 dl_510 dl_511 dl_514 (by decide) ow hgo H locs ls hA hl)
      | 7, _, ow => exact lv_tableIn (tgt := 519) hx hb dl_33 (by decide) (by decide) rfl rfl (lcase1i (pc := 519) C hL hL6 hw8 hw9 (ex := 99) (em := 309) (by decide +kernel) (by decide +kernel) dl_519 dl_520 dl_521 dl_522 dl_523 dl_524 dl_525 dl_528 dl_529 dl_530 dl_531 dl_532 dl_533 dl_534 dl_537 (by decide) ow hgo H locs ls hA hl)
      | 8, _, ow => exact lv_tableIn (tgt := 542) hx hb dl_33 (by decide) (by decide) rfl rfl (lcase0i (pc := 542) C hL hL6 hw8 hw9 (ex := 109) (em := 317) (by decide +kernel) (by decide +kernel) dl_542 dl_543 dl_546 dl_547 dl_550 (by decide) ow hgo H locs ls hA hl)
      | 9, _, ow => exact lv_tableIn (tgt := 555) hx hb dl_33 (by decide) (by decide) rfl rfl (lcase2i (pc := 555) C hL hL6 hw8 hw9 (ex := 112) (em := 283) (by decide +kernel) (by decide +kernel) dl_555 dl_556 dl_557 dl_558 dl_559 dl_560 dl_561 dl_562 dl_563 dl_564 dl_565 dl_566 dl_569 dl_570 dl_571 dl_572 dl_573 dl_574 dl_575 dl_576 dl_577 dl_578 dl_579 dl_580 dl_583 (by decide) ow hgo H locs ls hA hl)
      | 10, _, ow => exact lv_tableIn (tgt := 588) hx hb dl_33 (by decide) (by decide) rfl rfl (lcase0i (pc := 588) C hL hL6 hw8 hw9 (ex := 113) (em := 287) (by decide +kernel) (by decide +kernel) dl_588 dl_589 dl_592 dl_593 dl_596 (by decide) ow hgo H locs ls hA hl)
      | 11, _, ow => exact lv_tableIn (tgt := 601) hx hb dl_33 (by decide) (by decide) rfl rfl (lcase1i (pc := 601) C hL hL6 hw8 hw9 (ex := 114) (em := 323) (by decide +kernel) (by decide +kernel) dl_601 dl_602 dl_603 dl_604 dl_605 dl_606 dl_607 dl_610 dl_611 dl_612 dl_613 dl_614 dl_615 dl_616 dl_619 (by decide) ow hgo H locs ls hA hl)
      | 12, _, ow => exact lv_tableIn (tgt := 624) hx hb dl_33 (by decide) (by decide) rfl rfl (lcase0i (pc := 624) C hL hL6 hw8 hw9 (ex := 115) (em := 288) (by decide +kernel) (by decide +kernel) dl_624 dl_625 dl_628 dl_629 dl_632 (by decide) ow hgo H locs ls hA hl)
      | 13, _, ow => exact lv_tableIn (tgt := 637) hx hb dl_33 (by decide) (by decide) rfl rfl (lcase1i (pc := 637) C hL hL6 hw8 hw9 (ex := 129) (em := 324) (by decide +kernel) (by decide +kernel) dl_637 dl_638 dl_639 dl_640 dl_641 dl_642 dl_643 dl_646 dl_647 dl_648 dl_649 dl_650 dl_651 dl_652 dl_655 (by decide) ow hgo H locs ls hA hl)
      | 14, _, ow => exact lv_tableIn (tgt := 660) hx hb dl_33 (by decide) (by decide) rfl rfl (lcase2i (pc := 660) C hL hL6 hw8 hw9 (ex := 148) (em := 342) (by decide +kernel) (by decide +kernel) dl_660 dl_661 dl_662 dl_663 dl_664 dl_665 dl_666 dl_667 dl_668 dl_669 dl_670 dl_671 dl_674 dl_675 dl_676 dl_677 dl_678 dl_679 dl_680 dl_681 dl_682 dl_683 dl_684 dl_685 dl_688 (by decide) ow hgo H locs ls hA hl)
      | 15, _, ow => exact lv_tableIn (tgt := 693) hx hb dl_33 (by decide) (by decide) rfl rfl (lcase2i (pc := 693) C hL hL6 hw8 hw9 (ex := 152) (em := 345) (by decide +kernel) (by decide +kernel) dl_693 dl_694 dl_695 dl_696 dl_697 dl_698 dl_699 dl_700 dl_701 dl_702 dl_703 dl_704 dl_707 dl_708 dl_709 dl_710 dl_711 dl_712 dl_713 dl_714 dl_715 dl_716 dl_717 dl_718 dl_721 (by decide) ow hgo H locs ls hA hl)
      | 16, _, ow => exact lv_tableIn (tgt := 726) hx hb dl_33 (by decide) (by decide) rfl rfl (lcase2i (pc := 726) C hL hL6 hw8 hw9 (ex := 153) (em := 346) (by decide +kernel) (by decide +kernel) dl_726 dl_727 dl_728 dl_729 dl_730 dl_731 dl_732 dl_733 dl_734 dl_735 dl_736 dl_737 dl_740 dl_741 dl_742 dl_743 dl_744 dl_745 dl_746 dl_747 dl_748 dl_749 dl_750 dl_751 dl_754 (by decide) ow hgo H locs ls hA hl)
      | 17, _, ow => exact lv_tableIn (tgt := 759) hx hb dl_33 (by decide) (by decide) rfl rfl (lcase2i (pc := 759) C hL hL6 hw8 hw9 (ex := 155) (em := 348) (by decide +kernel) (by decide +kernel) dl_759 dl_760 dl_761 dl_762 dl_763 dl_764 dl_765 dl_766 dl_767 dl_768 dl_769 dl_770 dl_773 dl_774 dl_775 dl_776 dl_777 dl_778 dl_779 dl_780 dl_781 dl_782 dl_783 dl_784 dl_787 (by decide) ow hgo H locs ls hA hl)
      | 18, _, ow => exact lv_tableIn (tgt := 792) hx hb dl_33 (by decide) (by decide) rfl rfl (lcase1i (pc := 792) C hL hL6 hw8 hw9 (ex := 157) (em := 349) (by decide +kernel) (by decide +kernel) dl_792 dl_793 dl_794 dl_795 dl_796 dl_797 dl_798 dl_801 dl_802 dl_803 dl_804 dl_805 dl_806 dl_807 dl_810 (by decide) ow hgo H locs ls hA hl)
      | 19, _, ow => exact lv_tableIn (tgt := 815) hx hb dl_33 (by decide) (by decide) rfl rfl (lcase3i (pc := 815) C hL hL6 hw8 hw9 (ex := 159) (em := 350) (by decide +kernel) (by decide +kernel) dl_815 dl_816 dl_817 dl_818 dl_819 dl_820 dl_821 dl_822 dl_823 dl_824 dl_825 dl_826 dl_827 dl_828 dl_829 dl_830 dl_831 dl_834 dl_835 dl_836 dl_837 dl_838 dl_839 dl_840 dl_841 dl_842 dl_843 dl_844 dl_845 dl_846 dl_847 dl_848 dl_849 dl_850 dl_853 (by decide) ow hgo H locs ls hA hl)
      | 20, _, ow => exact lv_tableIn (tgt := 858) hx hb dl_33 (by decide) (by decide) rfl rfl (lcase2i (pc := 858) C hL hL6 hw8 hw9 (ex := 160) (em := 352) (by decide +kernel) (by decide +kernel) dl_858 dl_859 dl_860 dl_861 dl_862 dl_863 dl_864 dl_865 dl_866 dl_867 dl_868 dl_869 dl_872 dl_873 dl_874 dl_875 dl_876 dl_877 dl_878 dl_879 dl_880 dl_881 dl_882 dl_883 dl_886 (by decide) ow hgo H locs ls hA hl)
      | 21, _, ow => exact lv_tableIn (tgt := 891) hx hb dl_33 (by decide) (by decide) rfl rfl (lcase2i (pc := 891) C hL hL6 hw8 hw9 (ex := 161) (em := 353) (by decide +kernel) (by decide +kernel) dl_891 dl_892 dl_893 dl_894 dl_895 dl_896 dl_897 dl_898 dl_899 dl_900 dl_901 dl_902 dl_905 dl_906 dl_907 dl_908 dl_909 dl_910 dl_911 dl_912 dl_913 dl_914 dl_915 dl_916 dl_919 (by decide) ow hgo H locs ls hA hl)
      | 22, _, ow => exact lv_tableIn (tgt := 924) hx hb dl_33 (by decide) (by decide) rfl rfl (lcase2i (pc := 924) C hL hL6 hw8 hw9 (ex := 163) (em := 354) (by decide +kernel) (by decide +kernel) dl_924 dl_925 dl_926 dl_927 dl_928 dl_929 dl_930 dl_931 dl_932 dl_933 dl_934 dl_935 dl_938 dl_939 dl_940 dl_941 dl_942 dl_943 dl_944 dl_945 dl_946 dl_947 dl_948 dl_949 dl_952 (by decide) ow hgo H locs ls hA hl)
      | 23, _, ow => exact lv_tableIn (tgt := 957) hx hb dl_33 (by decide) (by decide) rfl rfl (lcase2i (pc := 957) C hL hL6 hw8 hw9 (ex := 165) (em := 355) (by decide +kernel) (by decide +kernel) dl_957 dl_958 dl_959 dl_960 dl_961 dl_962 dl_963 dl_964 dl_965 dl_966 dl_967 dl_968 dl_971 dl_972 dl_973 dl_974 dl_975 dl_976 dl_977 dl_978 dl_979 dl_980 dl_981 dl_982 dl_985 (by decide) ow hgo H locs ls hA hl)
      | 24, _, ow => exact lv_tableIn (tgt := 990) hx hb dl_33 (by decide) (by decide) rfl rfl (lcase4i (pc := 990) C hL hL6 hw8 hw9 (ex := 167) (em := 356) (by decide +kernel) (by decide +kernel) dl_990 dl_991 dl_992 dl_993 dl_994 dl_995 dl_996 dl_997 dl_998 dl_999 dl_1000 dl_1001 dl_1002 dl_1003 dl_1004 dl_1005 dl_1006 dl_1007 dl_1008 dl_1009 dl_1010 dl_1011 dl_1014 dl_1015 dl_1016 dl_1017 dl_1018 dl_1019 dl_1020 dl_1021 dl_1022 dl_1023 dl_1024 dl_1025 dl_1026 dl_1027 dl_1028 dl_1029 dl_1030 dl_1031 dl_1032 dl_1033 dl_1034 dl_1035 dl_1038 (by decide) ow hgo H locs ls hA hl)
      | 25, _, ow => exact lv_tableIn (tgt := 1043) hx hb dl_33 (by decide) (by decide) rfl rfl (lcase2i (pc := 1043) C hL hL6 hw8 hw9 (ex := 174) (em := 358) (by decide +kernel) (by decide +kernel) dl_1043 dl_1044 dl_1045 dl_1046 dl_1047 dl_1048 dl_1049 dl_1050 dl_1051 dl_1052 dl_1053 dl_1054 dl_1057 dl_1058 dl_1059 dl_1060 dl_1061 dl_1062 dl_1063 dl_1064 dl_1065 dl_1066 dl_1067 dl_1068 dl_1071 (by decide) ow hgo H locs ls hA hl)
      | 26, _, ow => exact lv_tableIn (tgt := 1076) hx hb dl_33 (by decide) (by decide) rfl rfl (lcase2l (pc := 1076) C hL hL6 hw8 hw9 (ex := 175) (em := 359) (by decide +kernel) (by decide +kernel) dl_1076 dl_1077 dl_1078 dl_1079 dl_1080 dl_1081 dl_1082 dl_1083 dl_1084 dl_1085 dl_1086 dl_1087 dl_1090 dl_1091 dl_1092 dl_1093 dl_1094 dl_1095 dl_1096 dl_1097 dl_1098 dl_1099 dl_1100 dl_1101 dl_1104 dl_1105 (by decide) ow hgo H locs ls hA hl)
      | 27, _, ow => exact lv_tableIn (tgt := 1110) hx hb dl_33 (by decide) (by decide) rfl rfl (lcase2i (pc := 1110) C hL hL6 hw8 hw9 (ex := 178) (em := 361) (by decide +kernel) (by decide +kernel) dl_1110 dl_1111 dl_1112 dl_1113 dl_1114 dl_1115 dl_1116 dl_1117 dl_1118 dl_1119 dl_1120 dl_1121 dl_1124 dl_1125 dl_1126 dl_1127 dl_1128 dl_1129 dl_1130 dl_1131 dl_1132 dl_1133 dl_1134 dl_1135 dl_1138 (by decide) ow hgo H locs ls hA hl)
      | 28, _, ow => exact lv_tableIn (tgt := 1143) hx hb dl_33 (by decide) (by decide) rfl rfl (lcase2i (pc := 1143) C hL hL6 hw8 hw9 (ex := 182) (em := 362) (by decide +kernel) (by decide +kernel) dl_1143 dl_1144 dl_1145 dl_1146 dl_1147 dl_1148 dl_1149 dl_1150 dl_1151 dl_1152 dl_1153 dl_1154 dl_1157 dl_1158 dl_1159 dl_1160 dl_1161 dl_1162 dl_1163 dl_1164 dl_1165 dl_1166 dl_1167 dl_1168 dl_1171 (by decide) ow hgo H locs ls hA hl)
      | 29, _, ow => exact lv_tableIn (tgt := 1176) hx hb dl_33 (by decide) (by decide) rfl rfl (lcase1l (pc := 1176) C hL hL6 hw8 hw9 (ex := 184) (em := 363) (by decide +kernel) (by decide +kernel) dl_1176 dl_1177 dl_1178 dl_1179 dl_1180 dl_1181 dl_1182 dl_1185 dl_1186 dl_1187 dl_1188 dl_1189 dl_1190 dl_1191 dl_1194 dl_1195 (by decide) ow hgo H locs ls hA hl)
      | 30, _, ow => exact lv_tableIn (tgt := 1200) hx hb dl_33 (by decide) (by decide) rfl rfl (lcase1i (pc := 1200) C hL hL6 hw8 hw9 (ex := 185) (em := 365) (by decide +kernel) (by decide +kernel) dl_1200 dl_1201 dl_1202 dl_1203 dl_1204 dl_1205 dl_1206 dl_1209 dl_1210 dl_1211 dl_1212 dl_1213 dl_1214 dl_1215 dl_1218 (by decide) ow hgo H locs ls hA hl)
      | 31, _, ow => exact lv_tableIn (tgt := 1223) hx hb dl_33 (by decide) (by decide) rfl rfl (lcase2i (pc := 1223) C hL hL6 hw8 hw9 (ex := 186) (em := 366) (by decide +kernel) (by decide +kernel) dl_1223 dl_1224 dl_1225 dl_1226 dl_1227 dl_1228 dl_1229 dl_1230 dl_1231 dl_1232 dl_1233 dl_1234 dl_1237 dl_1238 dl_1239 dl_1240 dl_1241 dl_1242 dl_1243 dl_1244 dl_1245 dl_1246 dl_1247 dl_1248 dl_1251 (by decide) ow hgo H locs ls hA hl)
      | 32, _, ow => exact lv_tableIn (tgt := 1256) hx hb dl_33 (by decide) (by decide) rfl rfl (lcase2i (pc := 1256) C hL hL6 hw8 hw9 (ex := 193) (em := 379) (by decide +kernel) (by decide +kernel) dl_1256 dl_1257 dl_1258 dl_1259 dl_1260 dl_1261 dl_1262 dl_1263 dl_1264 dl_1265 dl_1266 dl_1267 dl_1270 dl_1271 dl_1272 dl_1273 dl_1274 dl_1275 dl_1276 dl_1277 dl_1278 dl_1279 dl_1280 dl_1281 dl_1284 (by decide) ow hgo H locs ls hA hl)
      | 33, _, ow => exact lv_tableIn (tgt := 1289) hx hb dl_33 (by decide) (by decide) rfl rfl (lcase1i (pc := 1289) C hL hL6 hw8 hw9 (ex := 194) (em := 381) (by decide +kernel) (by decide +kernel) dl_1289 dl_1290 dl_1291 dl_1292 dl_1293 dl_1294 dl_1295 dl_1298 dl_1299 dl_1300 dl_1301 dl_1302 dl_1303 dl_1304 dl_1307 (by decide) ow hgo H locs ls hA hl)
      | 34, _, ow => exact lv_tableIn (tgt := 1312) hx hb dl_33 (by decide) (by decide) rfl rfl (lcase1i (pc := 1312) C hL hL6 hw8 hw9 (ex := 196) (em := 382) (by decide +kernel) (by decide +kernel) dl_1312 dl_1313 dl_1314 dl_1315 dl_1316 dl_1317 dl_1318 dl_1321 dl_1322 dl_1323 dl_1324 dl_1325 dl_1326 dl_1327 dl_1330 (by decide) ow hgo H locs ls hA hl)
      | 35, _, ow => exact lv_tableIn (tgt := 1335) hx hb dl_33 (by decide) (by decide) rfl rfl (lcase2i (pc := 1335) C hL hL6 hw8 hw9 (ex := 203) (em := 383) (by decide +kernel) (by decide +kernel) dl_1335 dl_1336 dl_1337 dl_1338 dl_1339 dl_1340 dl_1341 dl_1342 dl_1343 dl_1344 dl_1345 dl_1346 dl_1349 dl_1350 dl_1351 dl_1352 dl_1353 dl_1354 dl_1355 dl_1356 dl_1357 dl_1358 dl_1359 dl_1360 dl_1363 (by decide) ow hgo H locs ls hA hl)
      | 36, _, ow => exact lv_tableIn (tgt := 1368) hx hb dl_33 (by decide) (by decide) rfl rfl (lcase3i (pc := 1368) C hL hL6 hw8 hw9 (ex := 208) (em := 385) (by decide +kernel) (by decide +kernel) dl_1368 dl_1369 dl_1370 dl_1371 dl_1372 dl_1373 dl_1374 dl_1375 dl_1376 dl_1377 dl_1378 dl_1379 dl_1380 dl_1381 dl_1382 dl_1383 dl_1384 dl_1387 dl_1388 dl_1389 dl_1390 dl_1391 dl_1392 dl_1393 dl_1394 dl_1395 dl_1396 dl_1397 dl_1398 dl_1399 dl_1400 dl_1401 dl_1402 dl_1403 dl_1406 (by decide) ow hgo H locs ls hA hl)
      | 37, _, ow => exact lv_tableIn (tgt := 1411) hx hb dl_33 (by decide) (by decide) rfl rfl (lcase1i (pc := 1411) C hL hL6 hw8 hw9 (ex := 221) (em := 386) (by decide +kernel) (by decide +kernel) dl_1411 dl_1412 dl_1413 dl_1414 dl_1415 dl_1416 dl_1417 dl_1420 dl_1421 dl_1422 dl_1423 dl_1424 dl_1425 dl_1426 dl_1429 (by decide) ow hgo H locs ls hA hl)
      | 38, _, ow => exact lv_tableIn (tgt := 1434) hx hb dl_33 (by decide) (by decide) rfl rfl (lcase0i (pc := 1434) C hL hL6 hw8 hw9 (ex := 197) (em := 387) (by decide +kernel) (by decide +kernel) dl_1434 dl_1435 dl_1438 dl_1439 dl_1442 (by decide) ow hgo H locs ls hA hl)
      | 39, _, ow => exact lv_tableIn (tgt := 1447) hx hb dl_33 (by decide) (by decide) rfl rfl (lcase3i (pc := 1447) C hL hL6 hw8 hw9 (ex := 198) (em := 388) (by decide +kernel) (by decide +kernel) dl_1447 dl_1448 dl_1449 dl_1450 dl_1451 dl_1452 dl_1453 dl_1454 dl_1455 dl_1456 dl_1457 dl_1458 dl_1459 dl_1460 dl_1461 dl_1462 dl_1463 dl_1466 dl_1467 dl_1468 dl_1469 dl_1470 dl_1471 dl_1472 dl_1473 dl_1474 dl_1475 dl_1476 dl_1477 dl_1478 dl_1479 dl_1480 dl_1481 dl_1482 dl_1485 (by decide) ow hgo H locs ls hA hl)
      | 40, _, ow => exact lv_tableIn (tgt := 1490) hx hb dl_33 (by decide) (by decide) rfl rfl (lcase3i (pc := 1490) C hL hL6 hw8 hw9 (ex := 216) (em := 374) (by decide +kernel) (by decide +kernel) dl_1490 dl_1491 dl_1492 dl_1493 dl_1494 dl_1495 dl_1496 dl_1497 dl_1498 dl_1499 dl_1500 dl_1501 dl_1502 dl_1503 dl_1504 dl_1505 dl_1506 dl_1509 dl_1510 dl_1511 dl_1512 dl_1513 dl_1514 dl_1515 dl_1516 dl_1517 dl_1518 dl_1519 dl_1520 dl_1521 dl_1522 dl_1523 dl_1524 dl_1525 dl_1528 (by decide) ow hgo H locs ls hA hl)
      | 41, _, ow => exact lv_tableIn (tgt := 1533) hx hb dl_33 (by decide) (by decide) rfl rfl (lcase1i (pc := 1533) C hL hL6 hw8 hw9 (ex := 223) (em := 371) (by decide +kernel) (by decide +kernel) dl_1533 dl_1534 dl_1535 dl_1536 dl_1537 dl_1538 dl_1539 dl_1542 dl_1543 dl_1544 dl_1545 dl_1546 dl_1547 dl_1548 dl_1551 (by decide) ow hgo H locs ls hA hl)
      | 42, _, ow => exact lv_tableIn (tgt := 1556) hx hb dl_33 (by decide) (by decide) rfl rfl (lcase1i (pc := 1556) C hL hL6 hw8 hw9 (ex := 220) (em := 372) (by decide +kernel) (by decide +kernel) dl_1556 dl_1557 dl_1558 dl_1559 dl_1560 dl_1561 dl_1562 dl_1565 dl_1566 dl_1567 dl_1568 dl_1569 dl_1570 dl_1571 dl_1574 (by decide) ow hgo H locs ls hA hl)
      | 43, _, ow => exact lv_tableIn (tgt := 1579) hx hb dl_33 (by decide) (by decide) rfl rfl (lcase4i (pc := 1579) C hL hL6 hw8 hw9 (ex := 181) (em := 377) (by decide +kernel) (by decide +kernel) dl_1579 dl_1580 dl_1581 dl_1582 dl_1583 dl_1584 dl_1585 dl_1586 dl_1587 dl_1588 dl_1589 dl_1590 dl_1591 dl_1592 dl_1593 dl_1594 dl_1595 dl_1596 dl_1597 dl_1598 dl_1599 dl_1600 dl_1603 dl_1604 dl_1605 dl_1606 dl_1607 dl_1608 dl_1609 dl_1610 dl_1611 dl_1612 dl_1613 dl_1614 dl_1615 dl_1616 dl_1617 dl_1618 dl_1619 dl_1620 dl_1621 dl_1622 dl_1623 dl_1624 dl_1627 (by decide) ow hgo H locs ls hA hl)
      | 44, _, ow => exact lv_tableIn (tgt := 1632) hx hb dl_33 (by decide) (by decide) rfl rfl (lcase0i (pc := 1632) C hL hL6 hw8 hw9 (ex := 127) (em := 412) (by decide +kernel) (by decide +kernel) dl_1632 dl_1633 dl_1636 dl_1637 dl_1640 (by decide) ow hgo H locs ls hA hl)
      | 45, _, ow => exact lv_tableIn (tgt := 1645) hx hb dl_33 (by decide) (by decide) rfl rfl (lcase0i (pc := 1645) C hL hL6 hw8 hw9 (ex := 192) (em := 370) (by decide +kernel) (by decide +kernel) dl_1645 dl_1646 dl_1649 dl_1650 dl_1653 (by decide) ow hgo H locs ls hA hl)
      | 46, _, ow => exact lv_tableIn (tgt := 1658) hx hb dl_33 (by decide) (by decide) rfl rfl (lcase2i (pc := 1658) C hL hL6 hw8 hw9 (ex := 224) (em := 389) (by decide +kernel) (by decide +kernel) dl_1658 dl_1659 dl_1660 dl_1661 dl_1662 dl_1663 dl_1664 dl_1665 dl_1666 dl_1667 dl_1668 dl_1669 dl_1672 dl_1673 dl_1674 dl_1675 dl_1676 dl_1677 dl_1678 dl_1679 dl_1680 dl_1681 dl_1682 dl_1683 dl_1686 (by decide) ow hgo H locs ls hA hl)
      | 47, _, ow => exact lv_tableIn (tgt := 1691) hx hb dl_33 (by decide) (by decide) rfl rfl (lcase1i (pc := 1691) C hL hL6 hw8 hw9 (ex := 226) (em := 390) (by decide +kernel) (by decide +kernel) dl_1691 dl_1692 dl_1693 dl_1694 dl_1695 dl_1696 dl_1697 dl_1700 dl_1701 dl_1702 dl_1703 dl_1704 dl_1705 dl_1706 dl_1709 (by decide) ow hgo H locs ls hA hl)
      | 48, _, ow => exact lv_tableIn (tgt := 1714) hx hb dl_33 (by decide) (by decide) rfl rfl (lcase2i (pc := 1714) C hL hL6 hw8 hw9 (ex := 227) (em := 391) (by decide +kernel) (by decide +kernel) dl_1714 dl_1715 dl_1716 dl_1717 dl_1718 dl_1719 dl_1720 dl_1721 dl_1722 dl_1723 dl_1724 dl_1725 dl_1728 dl_1729 dl_1730 dl_1731 dl_1732 dl_1733 dl_1734 dl_1735 dl_1736 dl_1737 dl_1738 dl_1739 dl_1742 (by decide) ow hgo H locs ls hA hl)
      | 49, _, ow => exact lv_tableIn (tgt := 1747) hx hb dl_33 (by decide) (by decide) rfl rfl (lcase0l (pc := 1747) C hL hL6 hw8 hw9 (ex := 229) (em := 393) (by decide +kernel) (by decide +kernel) dl_1747 dl_1748 dl_1751 dl_1752 dl_1755 dl_1756 (by decide) ow hgo H locs ls hA hl)
      | 50, _, ow => exact lv_tableIn (tgt := 1761) hx hb dl_33 (by decide) (by decide) rfl rfl (lcase5i (pc := 1761) C hL hL6 hw8 hw9 (ex := 230) (em := 394) (by decide +kernel) (by decide +kernel) dl_1761 dl_1762 dl_1763 dl_1764 dl_1765 dl_1766 dl_1767 dl_1768 dl_1769 dl_1770 dl_1771 dl_1772 dl_1773 dl_1774 dl_1775 dl_1776 dl_1777 dl_1778 dl_1779 dl_1780 dl_1781 dl_1782 dl_1783 dl_1784 dl_1785 dl_1786 dl_1787 dl_1790 dl_1791 dl_1792 dl_1793 dl_1794 dl_1795 dl_1796 dl_1797 dl_1798 dl_1799 dl_1800 dl_1801 dl_1802 dl_1803 dl_1804 dl_1805 dl_1806 dl_1807 dl_1808 dl_1809 dl_1810 dl_1811 dl_1812 dl_1813 dl_1814 dl_1815 dl_1816 dl_1819 (by decide) ow hgo H locs ls hA hl)
      | 51, _, ow => exact lv_tableIn (tgt := 1824) hx hb dl_33 (by decide) (by decide) rfl rfl (lcase1i (pc := 1824) C hL hL6 hw8 hw9 (ex := 235) (em := 397) (by decide +kernel) (by decide +kernel) dl_1824 dl_1825 dl_1826 dl_1827 dl_1828 dl_1829 dl_1830 dl_1833 dl_1834 dl_1835 dl_1836 dl_1837 dl_1838 dl_1839 dl_1842 (by decide) ow hgo H locs ls hA hl)
      | 52, _, ow => exact lv_tableIn (tgt := 1847) hx hb dl_33 (by decide) (by decide) rfl rfl (lcase2i (pc := 1847) C hL hL6 hw8 hw9 (ex := 243) (em := 399) (by decide +kernel) (by decide +kernel) dl_1847 dl_1848 dl_1849 dl_1850 dl_1851 dl_1852 dl_1853 dl_1854 dl_1855 dl_1856 dl_1857 dl_1858 dl_1861 dl_1862 dl_1863 dl_1864 dl_1865 dl_1866 dl_1867 dl_1868 dl_1869 dl_1870 dl_1871 dl_1872 dl_1875 (by decide) ow hgo H locs ls hA hl)
      | 53, _, ow => exact lv_tableIn (tgt := 1880) hx hb dl_33 (by decide) (by decide) rfl rfl (lcase1i (pc := 1880) C hL hL6 hw8 hw9 (ex := 248) (em := 405) (by decide +kernel) (by decide +kernel) dl_1880 dl_1881 dl_1882 dl_1883 dl_1884 dl_1885 dl_1886 dl_1889 dl_1890 dl_1891 dl_1892 dl_1893 dl_1894 dl_1895 dl_1898 (by decide) ow hgo H locs ls hA hl)
      | 54, _, ow => exact lv_tableIn (tgt := 1903) hx hb dl_33 (by decide) (by decide) rfl rfl (lcase2i (pc := 1903) C hL hL6 hw8 hw9 (ex := 249) (em := 406) (by decide +kernel) (by decide +kernel) dl_1903 dl_1904 dl_1905 dl_1906 dl_1907 dl_1908 dl_1909 dl_1910 dl_1911 dl_1912 dl_1913 dl_1914 dl_1917 dl_1918 dl_1919 dl_1920 dl_1921 dl_1922 dl_1923 dl_1924 dl_1925 dl_1926 dl_1927 dl_1928 dl_1931 (by decide) ow hgo H locs ls hA hl)
      | 55, _, ow => exact lv_tableIn (tgt := 1936) hx hb dl_33 (by decide) (by decide) rfl rfl (lcase2i (pc := 1936) C hL hL6 hw8 hw9 (ex := 250) (em := 407) (by decide +kernel) (by decide +kernel) dl_1936 dl_1937 dl_1938 dl_1939 dl_1940 dl_1941 dl_1942 dl_1943 dl_1944 dl_1945 dl_1946 dl_1947 dl_1950 dl_1951 dl_1952 dl_1953 dl_1954 dl_1955 dl_1956 dl_1957 dl_1958 dl_1959 dl_1960 dl_1961 dl_1964 (by decide) ow hgo H locs ls hA hl)
      | 56, _, ow => exact lv_tableIn (tgt := 1969) hx hb dl_33 (by decide) (by decide) rfl rfl (lcase0l (pc := 1969) C hL hL6 hw8 hw9 (ex := 201) (em := 408) (by decide +kernel) (by decide +kernel) dl_1969 dl_1970 dl_1973 dl_1974 dl_1977 dl_1978 (by decide) ow hgo H locs ls hA hl)
      | 57, _, ow => exact lv_tableIn (tgt := 1983) hx hb dl_33 (by decide) (by decide) rfl rfl (lcase0i (pc := 1983) C hL hL6 hw8 hw9 (ex := 121) (em := 413) (by decide +kernel) (by decide +kernel) dl_1983 dl_1984 dl_1987 dl_1988 dl_1991 (by decide) ow hgo H locs ls hA hl)
      | 58, _, ow => exact lv_tableIn (tgt := 1996) hx hb dl_33 (by decide) (by decide) rfl rfl (lcase0i (pc := 1996) C hL hL6 hw8 hw9 (ex := 125) (em := 414) (by decide +kernel) (by decide +kernel) dl_1996 dl_1997 dl_2000 dl_2001 dl_2004 (by decide) ow hgo H locs ls hA hl)
      | 59, _, ow => exact lv_tableIn (tgt := 2009) hx hb dl_33 (by decide) (by decide) rfl rfl (lcase0i (pc := 2009) C hL hL6 hw8 hw9 (ex := 120) (em := 415) (by decide +kernel) (by decide +kernel) dl_2009 dl_2010 dl_2013 dl_2014 dl_2017 (by decide) ow hgo H locs ls hA hl)
      | 60, _, _ => exact lv_tableOut (tgt := 2022) hx hb dl_33 (by decide) (by decide) (hgo w0 z1 z2 H locs ls hA hl)
      | 61, _, _ => exact lv_tableOut (tgt := 2022) hx hb dl_33 (by decide) (by decide) (hgo w0 z1 z2 H locs ls hA hl)
      | 62, _, _ => exact lv_tableOut (tgt := 2022) hx hb dl_33 (by decide) (by decide) (hgo w0 z1 z2 H locs ls hA hl)
      | 63, _, _ => exact lv_tableOut (tgt := 2022) hx hb dl_33 (by decide) (by decide) (hgo w0 z1 z2 H locs ls hA hl)
      | k + 64, h, _ => omega
  -- the starts
  have hl := lv_entry ([.ref b]) (n := 4) (Nat.le_of_ble_eq_true rfl)
  rw [lg_entry_eq]
  generalize (lg_sl ([.ref b]) ++ List.replicate (4 - (lg_sl ([.ref b])).length) Slot.unset).toArray = ls at hl ⊢
  have hl : lv_has ls 4 [(0, .ref b)] := hl
  have g8 : pLe [lCell 8 10] wA := by
    obtain ⟨n8, r8⟩ := r8
    exact pGo_m _ _ _ _ _ r8
  have g9 : pLe (wA ++ [lCell 9 19]) w0 := by
    obtain ⟨n9, r9⟩ := r9
    exact pGo_m _ _ _ _ _ r9
  have y1 : wA.length + 1 ≤ w0.length := by
    have := g9.1
    simpa using this
  have y2 : pwsz wA + 19 ≤ pwsz w0 := by
    have := g9.2
    rw [pwsz_app] at this
    exact this
  have start : lK p l e (s.setDrawn s.drawn) m below meth c D s.heap.size b cA (lw_Z below #[Value.ref b] s) 0 [] [] [] := by
    refine lnew C dl_0 pnwL_0 rfl (by decide) (by decide) ?_
    refine ldup C dl_3 ?_
    refine lcallI (pc := 4) (a := 0) (rest := [.ref 0]) (mx := 1) (n := 0) C dl_4 (e9 := 0) (ci := 8) (by decide +kernel) rfl (Nat.le_refl 1) (by decide) r8 (by omega) (by omega) ?_
    intro H locs ls hA hl
    refine lv_astore_n (lv' := [(1, .ref (s.heap.size + 0)), (0, .ref b)]) hx hb dl_7 rfl hl (by decide) rfl (fun ls hl => ?_)
    have h2 : lK p l e (s.setDrawn s.drawn) m below meth c D s.heap.size b cA (lw_Z below #[Value.ref b] s) 8 [(1, .ref (s.heap.size + 0))] [] wA := by
      refine lnew C dl_8 pnwL_9 rfl (by omega) (by show pwsz wA + 19 ≤ _; omega) ?_
      refine ldup C dl_11 ?_
      refine lcallI (pc := 12) (a := wA.length) (rest := [.ref wA.length]) (mx := 1) (n := 0) C dl_12 (e9 := 251) (ci := 9) (by decide +kernel) (by rw [List.getElem?_append_right (Nat.le_refl _), Nat.sub_self]; rfl) (Nat.le_refl 1) (Nat.le_of_ble_eq_true rfl) r9 z1 z2 ?_
      intro H locs ls hA hl
      refine lv_astore_n (lv' := [(2, .ref (s.heap.size + wA.length)), (0, .ref b), (1, .ref (s.heap.size + 0))]) hx hb dl_15 rfl hl (by decide) rfl (fun ls hl => ?_)
      refine lv_iconst (v := 0) hx hb dl_16 rfl ?_
      refine lv_istore_n (lv' := [(3, .int 0), (2, .ref (s.heap.size + wA.length)), (0, .ref b), (1, .ref (s.heap.size + 0))]) hx hb dl_17 rfl hl (by decide) rfl (fun ls hl => ?_)
      exact hhead H locs ls hA (lv_sub hl [2, 0, 1, 3] rfl)
    exact h2 H locs ls hA (lv_sub hl [1, 0] rfl)
  have hP : va_P D vwCl (pwv s.heap.size cA []) s.heap := fun k q h => by simp [pwv] at h
  exact start s.heap [] ls ⟨hP, va_S.rf⟩ hl
