/-! THE LAW'S SHEETS: a new one. By hand, rows laid by program (wip/p63/mk95.py). -/
theorem agr_fresh {P : Nat → Prop} {w w1 : pW} {c : Nat} {d : pCell} (h : agr P w w1) (hc : w.length ≤ c) : agr P w (w1.set c d) := ⟨by rw [List.length_set]; exact h.1, fun i hi hp => (List.getElem?_set_ne (by omega)).trans (h.2 i hi hp)⟩
theorem agr_more {P : Nat → Prop} {w w1 : pW} (h : agr P w w1) (l : pW) : agr P w (w1 ++ l) := agr_trans h (agr_app (P := P)) (fun _ z => z)
theorem gro_more {n m : Nat} {w w1 : pW} (h : gro n m w w1) (c : pCell) {n' m' : Nat} (h1 : n + 1 = n') (h2 : m + pcsz c = m') : gro n' m' w (w1 ++ [c]) := by
  subst h1
  subst h2
  exact gro_trans h (gro_app w1 c)
theorem gro_put {n m : Nat} {w w1 : pW} {a : Nat} {c c' : pCell} (h : gro n m w w1) (hc : w1[a]? = some c) (hs : pcsz c' = pcsz c) : gro n m w (w1.set a c') := gro_trans h (gro_set hc hs)
theorem len_more {w1 : pW} {n : Nat} (h : w1.length = n) (c : pCell) : (w1 ++ [c]).length = n + 1 := by rw [List.length_append, h]; rfl
theorem len_put {w1 : pW} {n a : Nat} {c : pCell} (h : w1.length = n) : (w1.set a c).length = n := by rw [List.length_set]; exact h
theorem new_at {w1 : pW} {n : Nat} (h : w1.length = n) (c : pCell) : (w1 ++ [c])[n]? = some c := by subst h; exact app_new
theorem sh_setx {w : pW} {O Q : Nat → Prop} {a : Nat} {X : Sh} (h : shAt w O Q a X) {c : Nat} {d : pCell} (hc : ¬ O c ∧ ¬ Q c) : shAt (w.set c d) O Q a X := sh_agr (P := fun i => i = c) h (agr_set rfl) (fun i e => by rw [e]; exact hc)
theorem rows_len (p : Nat) : (pRows 40 40 p).length = 41 := by
  unfold pRows
  rw [List.length_cons, List.length_replicate]
theorem rows_at {w : pW} {n : Nat} (h : w.length = n) : (w ++ pRows 40 40 n)[n]? = some (.inl (3, 40, rfs (fun j => bif Nat.ble (j + 1) 40 then some (n + 1 + j) else none))) ∧ ∀ k : Nat, k < 40 → (w ++ pRows 40 40 n)[n + 1 + k]? = some (cR 40 (fun _ => 0)) := by
  subst h
  constructor
  · rw [List.getElem?_append_right (Nat.le_refl _), Nat.sub_self]; rfl
  · intro k hk
    rw [List.getElem?_append_right (by omega), show w.length + 1 + k - w.length = k + 1 by omega]
    show (List.replicate 40 _)[k]? = _
    rw [List.getElem?_replicate, if_pos hk]
    rfl
theorem rep_sz (c : pCell) : ∀ n : Nat, ((List.replicate n c).map pcsz).sum = n * pcsz c := by
  intro n
  induction n with
  | zero => simp
  | succ n ih => rw [List.replicate_succ, List.map_cons, List.sum_cons, ih, Nat.succ_mul]; omega
theorem rows_sz (p : Nat) : pwsz (pRows 40 40 p) = 1640 := by
  unfold pwsz pRows
  rw [List.map_cons, List.sum_cons, rep_sz]
  rfl
theorem gro_rows {n m : Nat} {w w1 : pW} (h : gro n m w w1) (p : Nat) : gro (n + 41) (m + 1640) w (w1 ++ pRows 40 40 p) := by
  refine gro_trans h ⟨by rw [List.length_append, rows_len]; omega, ?_⟩
  unfold pwsz
  rw [List.map_append, List.sum_append]
  have := rows_sz p
  unfold pwsz at this
  omega
theorem s_mnew {pc : Nat} {i d : Nat} {dt : List Nat} {lv : pLv} {st : List Value} {w : pW} : pS1 (.multianewarray i d) pc dt lv (.int (iI 40) :: .int (iI 40) :: st) w = some (.inl (pc + 4, lv, .ref w.length :: st, w ++ pRows 40 40 w.length)) := rfl
/-- a new sheet: the square's four points, its four sides -/
def Sh.first : Sh := Sh.fixes (Sh.uP (Sh.fixes (Sh.uP (Sh.fixes (Sh.uP (Sh.fixes (Sh.uP ((fun _ => none, fun _ _ => 0, 0, 313) : Sh) 0 (some (-1000, -1000, 0))) 0 1 2) 1 (some (1000, -1000, 0))) 1 2 2) 2 (some (1000, 1000, 0))) 2 3 2) 3 (some (-1000, 1000, 0))) 3 0 2
set_option maxHeartbeats 20000000 in
theorem w_init {w : pW} {a n : Nat} (hn : w.length = n) (ha : w[a]? = some (.inr (9, [.null, .null, .null, .int 0]))) : qC 123 [.ref a] w (fun r w' => r = none ∧ shAt w' (fun i => i = a ∨ (n ≤ i ∧ i < n + 42)) (fun i => n + 42 ≤ i ∧ i ≠ n + 43) a Sh.first ∧ agr (fun i => i = a) w w' ∧ gro 48 1696 w w') := by
  have han : a < n := by have := get_lt ha; omega
  have ca_w : w[a]? = some (.inr (9, [.null, .null, .null, .int (iI 0)])) := ha
  refine pc_run (lv := [(0, .ref a)]) rfl ?_
  refine pe_go (pc := 0) rfl (s_aload_n rfl) ?_
  refine pe_go (pc := 1) rfl (s_obj rfl) ?_
  refine pe_go (pc := 4) rfl (s_aload_n rfl) ?_
  refine pe_go (pc := 5) rfl (s_bipush (z := 40) rfl) ?_
  refine pe_go (pc := 7) rfl (s_newR (n := 40) rfl (by decide)) ?_
  rw [hn]
  generalize ew1 : w ++ [.inl (3, 40, rfs (fun _ => none))] = w1
  have lw1 : w1.length = n + 1 := by rw [← ew1]; exact len_more hn _
  have ca_w1 : w1[a]? = some (.inr (9, [.null, .null, .null, .int (iI 0)])) := by rw [← ew1]; exact app_keep ca_w
  have gw1 : agr (fun i => i = a) w w1 := by rw [← ew1]; exact agr_more (agr_refl _ _) _
  have zw1 := gro_more (gro_0 w) (.inl (3, 40, rfs (fun _ => none))) (n' := 1) (m' := 40) rfl rfl
  rw [ew1] at zw1
  have c0_w1 : w1[n]? = some (.inl (3, 40, rfs (fun _ => none))) := by rw [← ew1]; exact new_at hn _
  clear ca_w ew1
  refine pe_go (pc := 10) rfl (s_putf (w' := w1.set a (.inr (9, [.ref n, .null, .null, .int (iI 0)]))) ca_w1 (Nat.le_of_ble_eq_true rfl) rfl rfl) ?_
  generalize ew2 : w1.set a (.inr (9, [.ref n, .null, .null, .int (iI 0)])) = w2
  have lw2 : w2.length = n + 1 := by rw [← ew2]; exact len_put lw1
  have c0_w2 : w2[n]? = some (.inl (3, 40, rfs (fun _ => none))) := by rw [← ew2]; exact set_keep c0_w1 (by omega)
  have ca_w2 : w2[a]? = some (.inr (9, [.ref n, .null, .null, .int (iI 0)])) := by rw [← ew2]; exact set_at ca_w1
  have gw2 : agr (fun i => i = a) w w2 := by rw [← ew2]; exact agr_trans gw1 (agr_set (P := fun i => i = a) rfl) (fun _ z => z)
  have zw2 := gro_put (c' := .inr (9, [.ref n, .null, .null, .int (iI 0)])) zw1 ca_w1 rfl
  rw [ew2] at zw2
  clear ca_w1 c0_w1 lw1 gw1 zw1 ew2
  refine pe_go (pc := 13) rfl (s_aload_n rfl) ?_
  refine pe_go (pc := 14) rfl (s_bipush (z := 40) rfl) ?_
  refine pe_go (pc := 16) rfl (s_bipush (z := 40) rfl) ?_
  refine pe_go (pc := 18) rfl s_mnew ?_
  rw [lw2]
  generalize ew3 : w2 ++ pRows 40 40 (n + 1) = w3
  have lw3 : w3.length = n + 42 := by rw [← ew3, List.length_append, rows_len, lw2]
  have c0_w3 : w3[n]? = some (.inl (3, 40, rfs (fun _ => none))) := by rw [← ew3]; exact app_keep c0_w2
  have ca_w3 : w3[a]? = some (.inr (9, [.ref n, .null, .null, .int (iI 0)])) := by rw [← ew3]; exact app_keep ca_w2
  obtain ⟨r1, r2⟩ := rows_at lw2
  rw [ew3] at r1 r2
  have c1_w3 : w3[n + 1]? = some (.inl (3, 40, rfs (fun j => bif Nat.ble (j + 1) 40 then some (n + 1 + 1 + j) else none))) := r1
  have R_w3 : ∀ k : Nat, k < 40 → w3[n + 1 + 1 + k]? = some (cR 40 (fun _ => 0)) := r2
  have gw3 : agr (fun i => i = a) w w3 := by rw [← ew3]; exact agr_more gw2 _
  have zw3 : gro 42 1680 _ _ := gro_rows zw2 (n + 1)
  rw [ew3] at zw3
  refine pe_go (pc := 22) rfl (s_putf (w' := w3.set a (.inr (9, [.ref n, .ref (n + 1), .null, .int (iI 0)]))) ca_w3 (Nat.le_of_ble_eq_true rfl) rfl rfl) ?_
  generalize ew4 : w3.set a (.inr (9, [.ref n, .ref (n + 1), .null, .int (iI 0)])) = w4
  have lw4 : w4.length = n + 42 := by rw [← ew4]; exact len_put lw3
  have c0_w4 : w4[n]? = some (.inl (3, 40, rfs (fun _ => none))) := by rw [← ew4]; exact set_keep c0_w3 (by omega)
  have c1_w4 : w4[n + 1]? = some (.inl (3, 40, rfs (fun j => bif Nat.ble (j + 1) 40 then some (n + 1 + 1 + j) else none))) := by rw [← ew4]; exact set_keep c1_w3 (by omega)
  have ca_w4 : w4[a]? = some (.inr (9, [.ref n, .ref (n + 1), .null, .int (iI 0)])) := by rw [← ew4]; exact set_at ca_w3
  have R_w4 : ∀ k : Nat, k < 40 → w4[n + 1 + 1 + k]? = some (cR 40 (fun _ => 0)) := fun k hk => by rw [← ew4]; exact set_keep (R_w3 k hk) (by omega)
  have gw4 : agr (fun i => i = a) w w4 := by rw [← ew4]; exact agr_trans gw3 (agr_set (P := fun i => i = a) rfl) (fun _ z => z)
  have zw4 := gro_put (c' := .inr (9, [.ref n, .ref (n + 1), .null, .int (iI 0)])) zw3 ca_w3 rfl
  rw [ew4] at zw4
  clear c0_w3 ca_w3 c1_w3 R_w3 lw3 gw3 zw3 ew4
  refine pe_go (pc := 25) rfl (s_aload_n rfl) ?_
  refine pe_go (pc := 26) rfl (s_iconst (z := 0) rfl) ?_
  refine pe_go (pc := 27) rfl (s_newR (n := 0) rfl (by decide)) ?_
  rw [lw4]
  generalize ew5 : w4 ++ [.inl (3, 0, rfs (fun _ => none))] = w5
  have lw5 : w5.length = n + 43 := by rw [← ew5]; exact len_more lw4 _
  have c0_w5 : w5[n]? = some (.inl (3, 40, rfs (fun _ => none))) := by rw [← ew5]; exact app_keep c0_w4
  have c1_w5 : w5[n + 1]? = some (.inl (3, 40, rfs (fun j => bif Nat.ble (j + 1) 40 then some (n + 1 + 1 + j) else none))) := by rw [← ew5]; exact app_keep c1_w4
  have ca_w5 : w5[a]? = some (.inr (9, [.ref n, .ref (n + 1), .null, .int (iI 0)])) := by rw [← ew5]; exact app_keep ca_w4
  have R_w5 : ∀ k : Nat, k < 40 → w5[n + 1 + 1 + k]? = some (cR 40 (fun _ => 0)) := fun k hk => by rw [← ew5]; exact app_keep (R_w4 k hk)
  have gw5 : agr (fun i => i = a) w w5 := by rw [← ew5]; exact agr_more gw4 _
  have zw5 := gro_more zw4 (.inl (3, 0, rfs (fun _ => none))) (n' := 43) (m' := 1680) rfl rfl
  rw [ew5] at zw5
  have c42_w5 : w5[n + 42]? = some (.inl (3, 0, rfs (fun _ => none))) := by rw [← ew5]; exact new_at lw4 _
  clear c0_w4 c1_w4 ca_w4 R_w4 lw4 gw4 zw4 ew5
  refine pe_go (pc := 30) rfl (s_putf (w' := w5.set a (.inr (9, [.ref n, .ref (n + 1), .ref (n + 42), .int (iI 0)]))) ca_w5 (Nat.le_of_ble_eq_true rfl) rfl rfl) ?_
  generalize ew6 : w5.set a (.inr (9, [.ref n, .ref (n + 1), .ref (n + 42), .int (iI 0)])) = w6
  have lw6 : w6.length = n + 43 := by rw [← ew6]; exact len_put lw5
  have c0_w6 : w6[n]? = some (.inl (3, 40, rfs (fun _ => none))) := by rw [← ew6]; exact set_keep c0_w5 (by omega)
  have c1_w6 : w6[n + 1]? = some (.inl (3, 40, rfs (fun j => bif Nat.ble (j + 1) 40 then some (n + 1 + 1 + j) else none))) := by rw [← ew6]; exact set_keep c1_w5 (by omega)
  have c42_w6 : w6[n + 42]? = some (.inl (3, 0, rfs (fun _ => none))) := by rw [← ew6]; exact set_keep c42_w5 (by omega)
  have ca_w6 : w6[a]? = some (.inr (9, [.ref n, .ref (n + 1), .ref (n + 42), .int (iI 0)])) := by rw [← ew6]; exact set_at ca_w5
  have R_w6 : ∀ k : Nat, k < 40 → w6[n + 1 + 1 + k]? = some (cR 40 (fun _ => 0)) := fun k hk => by rw [← ew6]; exact set_keep (R_w5 k hk) (by omega)
  have gw6 : agr (fun i => i = a) w w6 := by rw [← ew6]; exact agr_trans gw5 (agr_set (P := fun i => i = a) rfl) (fun _ z => z)
  have zw6 := gro_put (c' := .inr (9, [.ref n, .ref (n + 1), .ref (n + 42), .int (iI 0)])) zw5 ca_w5 rfl
  rw [ew6] at zw6
  clear c0_w5 c1_w5 ca_w5 c42_w5 R_w5 lw5 gw5 zw5 ew6
  refine pe_go (pc := 33) rfl (s_aload_n rfl) ?_
  refine pe_go (pc := 34) rfl (s_sipush (z := 313) rfl) ?_
  refine pe_go (pc := 37) rfl (s_putf (w' := w6.set a (.inr (9, [.ref n, .ref (n + 1), .ref (n + 42), .int (iI 313)]))) ca_w6 (Nat.le_of_ble_eq_true rfl) rfl rfl) ?_
  generalize ew7 : w6.set a (.inr (9, [.ref n, .ref (n + 1), .ref (n + 42), .int (iI 313)])) = w7
  have lw7 : w7.length = n + 43 := by rw [← ew7]; exact len_put lw6
  have c0_w7 : w7[n]? = some (.inl (3, 40, rfs (fun _ => none))) := by rw [← ew7]; exact set_keep c0_w6 (by omega)
  have c1_w7 : w7[n + 1]? = some (.inl (3, 40, rfs (fun j => bif Nat.ble (j + 1) 40 then some (n + 1 + 1 + j) else none))) := by rw [← ew7]; exact set_keep c1_w6 (by omega)
  have c42_w7 : w7[n + 42]? = some (.inl (3, 0, rfs (fun _ => none))) := by rw [← ew7]; exact set_keep c42_w6 (by omega)
  have ca_w7 : w7[a]? = some (.inr (9, [.ref n, .ref (n + 1), .ref (n + 42), .int (iI 313)])) := by rw [← ew7]; exact set_at ca_w6
  have R_w7 : ∀ k : Nat, k < 40 → w7[n + 1 + 1 + k]? = some (cR 40 (fun _ => 0)) := fun k hk => by rw [← ew7]; exact set_keep (R_w6 k hk) (by omega)
  have gw7 : agr (fun i => i = a) w w7 := by rw [← ew7]; exact agr_trans gw6 (agr_set (P := fun i => i = a) rfl) (fun _ z => z)
  have zw7 := gro_put (c' := .inr (9, [.ref n, .ref (n + 1), .ref (n + 42), .int (iI 313)])) zw6 ca_w6 rfl
  rw [ew7] at zw7
  clear c0_w6 c1_w6 c42_w6 ca_w6 R_w6 lw6 gw6 zw6 ew7
  have s0 : shAt w7 (fun i => i = a ∨ (n ≤ i ∧ i < n + 42)) (fun i => i = n + 42) a ((fun _ => none, fun _ _ => 0, 0, 313) : Sh) := ⟨n, n + 1, n + 42, fun _ => none, (fun j => bif Nat.ble (j + 1) 40 then some (n + 1 + 1 + j) else none), fun _ => none, fun k => n + 1 + 1 + k, ⟨Or.inl rfl, by omega, by omega, rfl, by omega, by omega, by omega⟩, ca_w7, c0_w7, fun _ _ _ => rfl, fun k x y z _ h => (by cases h), c1_w7, fun k hk => ⟨by show (bif Nat.ble (k + 1) 40 then some (n + 1 + 1 + k) else none) = _; rw [Nat.ble_eq_true_of_le hk]; rfl, Or.inr ⟨by show n ≤ n + 1 + 1 + k; omega, by show n + 1 + 1 + k < n + 42; omega⟩, R_w7 k hk⟩, fun j k _ _ h => (by have h : n + 1 + 1 + j = n + 1 + 1 + k := h; omega), c42_w7, by decide, fun k hk => absurd hk (Nat.not_lt_zero _)⟩
  refine pe_go (pc := 40) rfl (s_iconst (z := 4) rfl) ?_
  refine pe_go (pc := 41) rfl (s_newR (n := 4) rfl (by decide)) ?_
  rw [lw7]
  generalize ew8 : w7 ++ [.inl (3, 4, rfs (fun _ => none))] = w8
  have lw8 : w8.length = n + 44 := by rw [← ew8]; exact len_more lw7 _
  have gw8 : agr (fun i => i = a) w w8 := by rw [← ew8]; exact agr_more gw7 _
  have zw8 := gro_more zw7 (.inl (3, 4, rfs (fun _ => none))) (n' := 44) (m' := 1684) rfl rfl
  rw [ew8] at zw8
  have sw8 : shAt w8 (fun i => i = a ∨ (n ≤ i ∧ i < n + 42)) (fun i => i = n + 42) a ((fun _ => none, fun _ _ => 0, 0, 313) : Sh) := by rw [← ew8]; exact sh_agr (P := fun _ => False) s0 agr_app (fun _ z => z.elim)
  have c43_w8 : w8[n + 43]? = some (.inl (3, 4, rfs (fun _ => none))) := by rw [← ew8]; exact new_at lw7 _
  clear lw7 gw7 zw7 s0 ew8
  refine pe_go (pc := 44) rfl (s_dup rfl) ?_
  refine pe_go (pc := 45) rfl (s_iconst (z := 0) rfl) ?_
  refine pe_go (pc := 46) rfl (s_iconst (z := 3) rfl) ?_
  refine pe_go (pc := 47) rfl (s_newI (n := 3) rfl (by decide)) ?_
  rw [lw8]
  generalize ew9 : w8 ++ [cR 3 (fun _ => 0)] = w9
  have lw9 : w9.length = n + 45 := by rw [← ew9]; exact len_more lw8 _
  have c43_w9 : w9[n + 43]? = some (.inl (3, 4, rfs (fun _ => none))) := by rw [← ew9]; exact app_keep c43_w8
  have gw9 : agr (fun i => i = a) w w9 := by rw [← ew9]; exact agr_more gw8 _
  have zw9 := gro_more zw8 (cR 3 (fun _ => 0)) (n' := 45) (m' := 1687) rfl rfl
  rw [ew9] at zw9
  have sw9 : shAt w9 (fun i => i = a ∨ (n ≤ i ∧ i < n + 42)) (fun i => i = n + 42) a ((fun _ => none, fun _ _ => 0, 0, 313) : Sh) := by rw [← ew9]; exact sh_agr (P := fun _ => False) sw8 agr_app (fun _ z => z.elim)
  have c44_w9 : w9[n + 44]? = some (cR 3 (fun _ => 0)) := by rw [← ew9]; exact new_at lw8 _
  clear c43_w8 lw8 gw8 zw8 sw8 ew9
  refine pe_go (pc := 49) rfl (s_dup rfl) ?_
  refine pe_go (pc := 50) rfl (s_iconst (z := 0) rfl) ?_
  refine pe_go (pc := 51) rfl (s_sipush (z := -1000) rfl) ?_
  refine pe_go (pc := 54) rfl (s_iast (f := (fun _ => 0)) (w' := w9.set (n + 44) (cR 3 (uZ (fun _ => 0) 0 (-1000)))) c44_w9 (k := 0) rfl (by decide) (by decide) rfl) ?_
  generalize ew10 : w9.set (n + 44) (cR 3 (uZ (fun _ => 0) 0 (-1000))) = w10
  have lw10 : w10.length = n + 45 := by rw [← ew10]; exact len_put lw9
  have c43_w10 : w10[n + 43]? = some (.inl (3, 4, rfs (fun _ => none))) := by rw [← ew10]; exact set_keep c43_w9 (by omega)
  have c44_w10 : w10[n + 44]? = some (cR 3 (uZ (fun _ => 0) 0 (-1000))) := by rw [← ew10]; exact set_at c44_w9
  have gw10 : agr (fun i => i = a) w w10 := by rw [← ew10]; exact agr_fresh gw9 (by omega)
  have zw10 := gro_put (c' := cR 3 (uZ (fun _ => 0) 0 (-1000))) zw9 c44_w9 rfl
  rw [ew10] at zw10
  have sw10 : shAt w10 (fun i => i = a ∨ (n ≤ i ∧ i < n + 42)) (fun i => i = n + 42) a ((fun _ => none, fun _ _ => 0, 0, 313) : Sh) := by rw [← ew10]; exact sh_setx sw9 ⟨by omega, by omega⟩
  clear c43_w9 c44_w9 lw9 gw9 zw9 sw9 ew10
  refine pe_go (pc := 55) rfl (s_dup rfl) ?_
  refine pe_go (pc := 56) rfl (s_iconst (z := 1) rfl) ?_
  refine pe_go (pc := 57) rfl (s_sipush (z := -1000) rfl) ?_
  refine pe_go (pc := 60) rfl (s_iast (f := (uZ (fun _ => 0) 0 (-1000))) (w' := w10.set (n + 44) (cR 3 (uZ (uZ (fun _ => 0) 0 (-1000)) 1 (-1000)))) c44_w10 (k := 1) rfl (by decide) (by decide) rfl) ?_
  generalize ew11 : w10.set (n + 44) (cR 3 (uZ (uZ (fun _ => 0) 0 (-1000)) 1 (-1000))) = w11
  have lw11 : w11.length = n + 45 := by rw [← ew11]; exact len_put lw10
  have c43_w11 : w11[n + 43]? = some (.inl (3, 4, rfs (fun _ => none))) := by rw [← ew11]; exact set_keep c43_w10 (by omega)
  have c44_w11 : w11[n + 44]? = some (cR 3 (uZ (uZ (fun _ => 0) 0 (-1000)) 1 (-1000))) := by rw [← ew11]; exact set_at c44_w10
  have gw11 : agr (fun i => i = a) w w11 := by rw [← ew11]; exact agr_fresh gw10 (by omega)
  have zw11 := gro_put (c' := cR 3 (uZ (uZ (fun _ => 0) 0 (-1000)) 1 (-1000))) zw10 c44_w10 rfl
  rw [ew11] at zw11
  have sw11 : shAt w11 (fun i => i = a ∨ (n ≤ i ∧ i < n + 42)) (fun i => i = n + 42) a ((fun _ => none, fun _ _ => 0, 0, 313) : Sh) := by rw [← ew11]; exact sh_setx sw10 ⟨by omega, by omega⟩
  clear c43_w10 c44_w10 lw10 gw10 zw10 sw10 ew11
  refine pe_go (pc := 61) rfl (s_dup rfl) ?_
  refine pe_go (pc := 62) rfl (s_iconst (z := 2) rfl) ?_
  refine pe_go (pc := 63) rfl (s_iconst (z := 0) rfl) ?_
  refine pe_go (pc := 64) rfl (s_iast (f := (uZ (uZ (fun _ => 0) 0 (-1000)) 1 (-1000))) (w' := w11.set (n + 44) (cR 3 (uZ (uZ (uZ (fun _ => 0) 0 (-1000)) 1 (-1000)) 2 (0)))) c44_w11 (k := 2) rfl (by decide) (by decide) rfl) ?_
  generalize ew12 : w11.set (n + 44) (cR 3 (uZ (uZ (uZ (fun _ => 0) 0 (-1000)) 1 (-1000)) 2 (0))) = w12
  have lw12 : w12.length = n + 45 := by rw [← ew12]; exact len_put lw11
  have c43_w12 : w12[n + 43]? = some (.inl (3, 4, rfs (fun _ => none))) := by rw [← ew12]; exact set_keep c43_w11 (by omega)
  have c44_w12 : w12[n + 44]? = some (cR 3 (uZ (uZ (uZ (fun _ => 0) 0 (-1000)) 1 (-1000)) 2 (0))) := by rw [← ew12]; exact set_at c44_w11
  have gw12 : agr (fun i => i = a) w w12 := by rw [← ew12]; exact agr_fresh gw11 (by omega)
  have zw12 := gro_put (c' := cR 3 (uZ (uZ (uZ (fun _ => 0) 0 (-1000)) 1 (-1000)) 2 (0))) zw11 c44_w11 rfl
  rw [ew12] at zw12
  have sw12 : shAt w12 (fun i => i = a ∨ (n ≤ i ∧ i < n + 42)) (fun i => i = n + 42) a ((fun _ => none, fun _ _ => 0, 0, 313) : Sh) := by rw [← ew12]; exact sh_setx sw11 ⟨by omega, by omega⟩
  clear c43_w11 c44_w11 lw11 gw11 zw11 sw11 ew12
  refine pe_go (pc := 65) rfl (s_aast (kd := 3) (k := 0) (w' := w12.set (n + 43) (.inl (3, 4, rfs (va_up (fun _ => none) 0 (some (n + 44)))))) c43_w12 (holds_row c44_w12) rfl ⟨by decide, by decide⟩ rfl) ?_
  generalize ew13 : w12.set (n + 43) (.inl (3, 4, rfs (va_up (fun _ => none) 0 (some (n + 44))))) = w13
  have lw13 : w13.length = n + 45 := by rw [← ew13]; exact len_put lw12
  have c44_w13 : w13[n + 44]? = some (cR 3 (uZ (uZ (uZ (fun _ => 0) 0 (-1000)) 1 (-1000)) 2 (0))) := by rw [← ew13]; exact set_keep c44_w12 (by omega)
  have c43_w13 : w13[n + 43]? = some (.inl (3, 4, rfs (va_up (fun _ => none) 0 (some (n + 44))))) := by rw [← ew13]; exact set_at c43_w12
  have gw13 : agr (fun i => i = a) w w13 := by rw [← ew13]; exact agr_fresh gw12 (by omega)
  have zw13 := gro_put (c' := .inl (3, 4, rfs (va_up (fun _ => none) 0 (some (n + 44))))) zw12 c43_w12 rfl
  rw [ew13] at zw13
  have sw13 : shAt w13 (fun i => i = a ∨ (n ≤ i ∧ i < n + 42)) (fun i => i = n + 42) a ((fun _ => none, fun _ _ => 0, 0, 313) : Sh) := by rw [← ew13]; exact sh_setx sw12 ⟨by omega, by omega⟩
  clear c43_w12 c44_w12 lw12 gw12 zw12 sw12 ew13
  refine pe_go (pc := 66) rfl (s_dup rfl) ?_
  refine pe_go (pc := 67) rfl (s_iconst (z := 1) rfl) ?_
  refine pe_go (pc := 68) rfl (s_iconst (z := 3) rfl) ?_
  refine pe_go (pc := 69) rfl (s_newI (n := 3) rfl (by decide)) ?_
  rw [lw13]
  generalize ew14 : w13 ++ [cR 3 (fun _ => 0)] = w14
  have lw14 : w14.length = n + 46 := by rw [← ew14]; exact len_more lw13 _
  have c44_w14 : w14[n + 44]? = some (cR 3 (uZ (uZ (uZ (fun _ => 0) 0 (-1000)) 1 (-1000)) 2 (0))) := by rw [← ew14]; exact app_keep c44_w13
  have c43_w14 : w14[n + 43]? = some (.inl (3, 4, rfs (va_up (fun _ => none) 0 (some (n + 44))))) := by rw [← ew14]; exact app_keep c43_w13
  have gw14 : agr (fun i => i = a) w w14 := by rw [← ew14]; exact agr_more gw13 _
  have zw14 := gro_more zw13 (cR 3 (fun _ => 0)) (n' := 46) (m' := 1690) rfl rfl
  rw [ew14] at zw14
  have sw14 : shAt w14 (fun i => i = a ∨ (n ≤ i ∧ i < n + 42)) (fun i => i = n + 42) a ((fun _ => none, fun _ _ => 0, 0, 313) : Sh) := by rw [← ew14]; exact sh_agr (P := fun _ => False) sw13 agr_app (fun _ z => z.elim)
  have c45_w14 : w14[n + 45]? = some (cR 3 (fun _ => 0)) := by rw [← ew14]; exact new_at lw13 _
  clear c44_w13 c43_w13 lw13 gw13 zw13 sw13 ew14
  refine pe_go (pc := 71) rfl (s_dup rfl) ?_
  refine pe_go (pc := 72) rfl (s_iconst (z := 0) rfl) ?_
  refine pe_go (pc := 73) rfl (s_sipush (z := 1000) rfl) ?_
  refine pe_go (pc := 76) rfl (s_iast (f := (fun _ => 0)) (w' := w14.set (n + 45) (cR 3 (uZ (fun _ => 0) 0 (1000)))) c45_w14 (k := 0) rfl (by decide) (by decide) rfl) ?_
  generalize ew15 : w14.set (n + 45) (cR 3 (uZ (fun _ => 0) 0 (1000))) = w15
  have lw15 : w15.length = n + 46 := by rw [← ew15]; exact len_put lw14
  have c44_w15 : w15[n + 44]? = some (cR 3 (uZ (uZ (uZ (fun _ => 0) 0 (-1000)) 1 (-1000)) 2 (0))) := by rw [← ew15]; exact set_keep c44_w14 (by omega)
  have c43_w15 : w15[n + 43]? = some (.inl (3, 4, rfs (va_up (fun _ => none) 0 (some (n + 44))))) := by rw [← ew15]; exact set_keep c43_w14 (by omega)
  have c45_w15 : w15[n + 45]? = some (cR 3 (uZ (fun _ => 0) 0 (1000))) := by rw [← ew15]; exact set_at c45_w14
  have gw15 : agr (fun i => i = a) w w15 := by rw [← ew15]; exact agr_fresh gw14 (by omega)
  have zw15 := gro_put (c' := cR 3 (uZ (fun _ => 0) 0 (1000))) zw14 c45_w14 rfl
  rw [ew15] at zw15
  have sw15 : shAt w15 (fun i => i = a ∨ (n ≤ i ∧ i < n + 42)) (fun i => i = n + 42) a ((fun _ => none, fun _ _ => 0, 0, 313) : Sh) := by rw [← ew15]; exact sh_setx sw14 ⟨by omega, by omega⟩
  clear c44_w14 c43_w14 c45_w14 lw14 gw14 zw14 sw14 ew15
  refine pe_go (pc := 77) rfl (s_dup rfl) ?_
  refine pe_go (pc := 78) rfl (s_iconst (z := 1) rfl) ?_
  refine pe_go (pc := 79) rfl (s_sipush (z := -1000) rfl) ?_
  refine pe_go (pc := 82) rfl (s_iast (f := (uZ (fun _ => 0) 0 (1000))) (w' := w15.set (n + 45) (cR 3 (uZ (uZ (fun _ => 0) 0 (1000)) 1 (-1000)))) c45_w15 (k := 1) rfl (by decide) (by decide) rfl) ?_
  generalize ew16 : w15.set (n + 45) (cR 3 (uZ (uZ (fun _ => 0) 0 (1000)) 1 (-1000))) = w16
  have lw16 : w16.length = n + 46 := by rw [← ew16]; exact len_put lw15
  have c44_w16 : w16[n + 44]? = some (cR 3 (uZ (uZ (uZ (fun _ => 0) 0 (-1000)) 1 (-1000)) 2 (0))) := by rw [← ew16]; exact set_keep c44_w15 (by omega)
  have c43_w16 : w16[n + 43]? = some (.inl (3, 4, rfs (va_up (fun _ => none) 0 (some (n + 44))))) := by rw [← ew16]; exact set_keep c43_w15 (by omega)
  have c45_w16 : w16[n + 45]? = some (cR 3 (uZ (uZ (fun _ => 0) 0 (1000)) 1 (-1000))) := by rw [← ew16]; exact set_at c45_w15
  have gw16 : agr (fun i => i = a) w w16 := by rw [← ew16]; exact agr_fresh gw15 (by omega)
  have zw16 := gro_put (c' := cR 3 (uZ (uZ (fun _ => 0) 0 (1000)) 1 (-1000))) zw15 c45_w15 rfl
  rw [ew16] at zw16
  have sw16 : shAt w16 (fun i => i = a ∨ (n ≤ i ∧ i < n + 42)) (fun i => i = n + 42) a ((fun _ => none, fun _ _ => 0, 0, 313) : Sh) := by rw [← ew16]; exact sh_setx sw15 ⟨by omega, by omega⟩
  clear c44_w15 c43_w15 c45_w15 lw15 gw15 zw15 sw15 ew16
  refine pe_go (pc := 83) rfl (s_dup rfl) ?_
  refine pe_go (pc := 84) rfl (s_iconst (z := 2) rfl) ?_
  refine pe_go (pc := 85) rfl (s_iconst (z := 0) rfl) ?_
  refine pe_go (pc := 86) rfl (s_iast (f := (uZ (uZ (fun _ => 0) 0 (1000)) 1 (-1000))) (w' := w16.set (n + 45) (cR 3 (uZ (uZ (uZ (fun _ => 0) 0 (1000)) 1 (-1000)) 2 (0)))) c45_w16 (k := 2) rfl (by decide) (by decide) rfl) ?_
  generalize ew17 : w16.set (n + 45) (cR 3 (uZ (uZ (uZ (fun _ => 0) 0 (1000)) 1 (-1000)) 2 (0))) = w17
  have lw17 : w17.length = n + 46 := by rw [← ew17]; exact len_put lw16
  have c44_w17 : w17[n + 44]? = some (cR 3 (uZ (uZ (uZ (fun _ => 0) 0 (-1000)) 1 (-1000)) 2 (0))) := by rw [← ew17]; exact set_keep c44_w16 (by omega)
  have c43_w17 : w17[n + 43]? = some (.inl (3, 4, rfs (va_up (fun _ => none) 0 (some (n + 44))))) := by rw [← ew17]; exact set_keep c43_w16 (by omega)
  have c45_w17 : w17[n + 45]? = some (cR 3 (uZ (uZ (uZ (fun _ => 0) 0 (1000)) 1 (-1000)) 2 (0))) := by rw [← ew17]; exact set_at c45_w16
  have gw17 : agr (fun i => i = a) w w17 := by rw [← ew17]; exact agr_fresh gw16 (by omega)
  have zw17 := gro_put (c' := cR 3 (uZ (uZ (uZ (fun _ => 0) 0 (1000)) 1 (-1000)) 2 (0))) zw16 c45_w16 rfl
  rw [ew17] at zw17
  have sw17 : shAt w17 (fun i => i = a ∨ (n ≤ i ∧ i < n + 42)) (fun i => i = n + 42) a ((fun _ => none, fun _ _ => 0, 0, 313) : Sh) := by rw [← ew17]; exact sh_setx sw16 ⟨by omega, by omega⟩
  clear c44_w16 c43_w16 c45_w16 lw16 gw16 zw16 sw16 ew17
  refine pe_go (pc := 87) rfl (s_aast (kd := 3) (k := 1) (w' := w17.set (n + 43) (.inl (3, 4, rfs (va_up (va_up (fun _ => none) 0 (some (n + 44))) 1 (some (n + 45)))))) c43_w17 (holds_row c45_w17) rfl ⟨by decide, by decide⟩ rfl) ?_
  generalize ew18 : w17.set (n + 43) (.inl (3, 4, rfs (va_up (va_up (fun _ => none) 0 (some (n + 44))) 1 (some (n + 45))))) = w18
  have lw18 : w18.length = n + 46 := by rw [← ew18]; exact len_put lw17
  have c44_w18 : w18[n + 44]? = some (cR 3 (uZ (uZ (uZ (fun _ => 0) 0 (-1000)) 1 (-1000)) 2 (0))) := by rw [← ew18]; exact set_keep c44_w17 (by omega)
  have c45_w18 : w18[n + 45]? = some (cR 3 (uZ (uZ (uZ (fun _ => 0) 0 (1000)) 1 (-1000)) 2 (0))) := by rw [← ew18]; exact set_keep c45_w17 (by omega)
  have c43_w18 : w18[n + 43]? = some (.inl (3, 4, rfs (va_up (va_up (fun _ => none) 0 (some (n + 44))) 1 (some (n + 45))))) := by rw [← ew18]; exact set_at c43_w17
  have gw18 : agr (fun i => i = a) w w18 := by rw [← ew18]; exact agr_fresh gw17 (by omega)
  have zw18 := gro_put (c' := .inl (3, 4, rfs (va_up (va_up (fun _ => none) 0 (some (n + 44))) 1 (some (n + 45))))) zw17 c43_w17 rfl
  rw [ew18] at zw18
  have sw18 : shAt w18 (fun i => i = a ∨ (n ≤ i ∧ i < n + 42)) (fun i => i = n + 42) a ((fun _ => none, fun _ _ => 0, 0, 313) : Sh) := by rw [← ew18]; exact sh_setx sw17 ⟨by omega, by omega⟩
  clear c44_w17 c43_w17 c45_w17 lw17 gw17 zw17 sw17 ew18
  refine pe_go (pc := 88) rfl (s_dup rfl) ?_
  refine pe_go (pc := 89) rfl (s_iconst (z := 2) rfl) ?_
  refine pe_go (pc := 90) rfl (s_iconst (z := 3) rfl) ?_
  refine pe_go (pc := 91) rfl (s_newI (n := 3) rfl (by decide)) ?_
  rw [lw18]
  generalize ew19 : w18 ++ [cR 3 (fun _ => 0)] = w19
  have lw19 : w19.length = n + 47 := by rw [← ew19]; exact len_more lw18 _
  have c44_w19 : w19[n + 44]? = some (cR 3 (uZ (uZ (uZ (fun _ => 0) 0 (-1000)) 1 (-1000)) 2 (0))) := by rw [← ew19]; exact app_keep c44_w18
  have c45_w19 : w19[n + 45]? = some (cR 3 (uZ (uZ (uZ (fun _ => 0) 0 (1000)) 1 (-1000)) 2 (0))) := by rw [← ew19]; exact app_keep c45_w18
  have c43_w19 : w19[n + 43]? = some (.inl (3, 4, rfs (va_up (va_up (fun _ => none) 0 (some (n + 44))) 1 (some (n + 45))))) := by rw [← ew19]; exact app_keep c43_w18
  have gw19 : agr (fun i => i = a) w w19 := by rw [← ew19]; exact agr_more gw18 _
  have zw19 := gro_more zw18 (cR 3 (fun _ => 0)) (n' := 47) (m' := 1693) rfl rfl
  rw [ew19] at zw19
  have sw19 : shAt w19 (fun i => i = a ∨ (n ≤ i ∧ i < n + 42)) (fun i => i = n + 42) a ((fun _ => none, fun _ _ => 0, 0, 313) : Sh) := by rw [← ew19]; exact sh_agr (P := fun _ => False) sw18 agr_app (fun _ z => z.elim)
  have c46_w19 : w19[n + 46]? = some (cR 3 (fun _ => 0)) := by rw [← ew19]; exact new_at lw18 _
  clear c44_w18 c45_w18 c43_w18 lw18 gw18 zw18 sw18 ew19
  refine pe_go (pc := 93) rfl (s_dup rfl) ?_
  refine pe_go (pc := 94) rfl (s_iconst (z := 0) rfl) ?_
  refine pe_go (pc := 95) rfl (s_sipush (z := 1000) rfl) ?_
  refine pe_go (pc := 98) rfl (s_iast (f := (fun _ => 0)) (w' := w19.set (n + 46) (cR 3 (uZ (fun _ => 0) 0 (1000)))) c46_w19 (k := 0) rfl (by decide) (by decide) rfl) ?_
  generalize ew20 : w19.set (n + 46) (cR 3 (uZ (fun _ => 0) 0 (1000))) = w20
  have lw20 : w20.length = n + 47 := by rw [← ew20]; exact len_put lw19
  have c44_w20 : w20[n + 44]? = some (cR 3 (uZ (uZ (uZ (fun _ => 0) 0 (-1000)) 1 (-1000)) 2 (0))) := by rw [← ew20]; exact set_keep c44_w19 (by omega)
  have c45_w20 : w20[n + 45]? = some (cR 3 (uZ (uZ (uZ (fun _ => 0) 0 (1000)) 1 (-1000)) 2 (0))) := by rw [← ew20]; exact set_keep c45_w19 (by omega)
  have c43_w20 : w20[n + 43]? = some (.inl (3, 4, rfs (va_up (va_up (fun _ => none) 0 (some (n + 44))) 1 (some (n + 45))))) := by rw [← ew20]; exact set_keep c43_w19 (by omega)
  have c46_w20 : w20[n + 46]? = some (cR 3 (uZ (fun _ => 0) 0 (1000))) := by rw [← ew20]; exact set_at c46_w19
  have gw20 : agr (fun i => i = a) w w20 := by rw [← ew20]; exact agr_fresh gw19 (by omega)
  have zw20 := gro_put (c' := cR 3 (uZ (fun _ => 0) 0 (1000))) zw19 c46_w19 rfl
  rw [ew20] at zw20
  have sw20 : shAt w20 (fun i => i = a ∨ (n ≤ i ∧ i < n + 42)) (fun i => i = n + 42) a ((fun _ => none, fun _ _ => 0, 0, 313) : Sh) := by rw [← ew20]; exact sh_setx sw19 ⟨by omega, by omega⟩
  clear c44_w19 c45_w19 c43_w19 c46_w19 lw19 gw19 zw19 sw19 ew20
  refine pe_go (pc := 99) rfl (s_dup rfl) ?_
  refine pe_go (pc := 100) rfl (s_iconst (z := 1) rfl) ?_
  refine pe_go (pc := 101) rfl (s_sipush (z := 1000) rfl) ?_
  refine pe_go (pc := 104) rfl (s_iast (f := (uZ (fun _ => 0) 0 (1000))) (w' := w20.set (n + 46) (cR 3 (uZ (uZ (fun _ => 0) 0 (1000)) 1 (1000)))) c46_w20 (k := 1) rfl (by decide) (by decide) rfl) ?_
  generalize ew21 : w20.set (n + 46) (cR 3 (uZ (uZ (fun _ => 0) 0 (1000)) 1 (1000))) = w21
  have lw21 : w21.length = n + 47 := by rw [← ew21]; exact len_put lw20
  have c44_w21 : w21[n + 44]? = some (cR 3 (uZ (uZ (uZ (fun _ => 0) 0 (-1000)) 1 (-1000)) 2 (0))) := by rw [← ew21]; exact set_keep c44_w20 (by omega)
  have c45_w21 : w21[n + 45]? = some (cR 3 (uZ (uZ (uZ (fun _ => 0) 0 (1000)) 1 (-1000)) 2 (0))) := by rw [← ew21]; exact set_keep c45_w20 (by omega)
  have c43_w21 : w21[n + 43]? = some (.inl (3, 4, rfs (va_up (va_up (fun _ => none) 0 (some (n + 44))) 1 (some (n + 45))))) := by rw [← ew21]; exact set_keep c43_w20 (by omega)
  have c46_w21 : w21[n + 46]? = some (cR 3 (uZ (uZ (fun _ => 0) 0 (1000)) 1 (1000))) := by rw [← ew21]; exact set_at c46_w20
  have gw21 : agr (fun i => i = a) w w21 := by rw [← ew21]; exact agr_fresh gw20 (by omega)
  have zw21 := gro_put (c' := cR 3 (uZ (uZ (fun _ => 0) 0 (1000)) 1 (1000))) zw20 c46_w20 rfl
  rw [ew21] at zw21
  have sw21 : shAt w21 (fun i => i = a ∨ (n ≤ i ∧ i < n + 42)) (fun i => i = n + 42) a ((fun _ => none, fun _ _ => 0, 0, 313) : Sh) := by rw [← ew21]; exact sh_setx sw20 ⟨by omega, by omega⟩
  clear c44_w20 c45_w20 c43_w20 c46_w20 lw20 gw20 zw20 sw20 ew21
  refine pe_go (pc := 105) rfl (s_dup rfl) ?_
  refine pe_go (pc := 106) rfl (s_iconst (z := 2) rfl) ?_
  refine pe_go (pc := 107) rfl (s_iconst (z := 0) rfl) ?_
  refine pe_go (pc := 108) rfl (s_iast (f := (uZ (uZ (fun _ => 0) 0 (1000)) 1 (1000))) (w' := w21.set (n + 46) (cR 3 (uZ (uZ (uZ (fun _ => 0) 0 (1000)) 1 (1000)) 2 (0)))) c46_w21 (k := 2) rfl (by decide) (by decide) rfl) ?_
  generalize ew22 : w21.set (n + 46) (cR 3 (uZ (uZ (uZ (fun _ => 0) 0 (1000)) 1 (1000)) 2 (0))) = w22
  have lw22 : w22.length = n + 47 := by rw [← ew22]; exact len_put lw21
  have c44_w22 : w22[n + 44]? = some (cR 3 (uZ (uZ (uZ (fun _ => 0) 0 (-1000)) 1 (-1000)) 2 (0))) := by rw [← ew22]; exact set_keep c44_w21 (by omega)
  have c45_w22 : w22[n + 45]? = some (cR 3 (uZ (uZ (uZ (fun _ => 0) 0 (1000)) 1 (-1000)) 2 (0))) := by rw [← ew22]; exact set_keep c45_w21 (by omega)
  have c43_w22 : w22[n + 43]? = some (.inl (3, 4, rfs (va_up (va_up (fun _ => none) 0 (some (n + 44))) 1 (some (n + 45))))) := by rw [← ew22]; exact set_keep c43_w21 (by omega)
  have c46_w22 : w22[n + 46]? = some (cR 3 (uZ (uZ (uZ (fun _ => 0) 0 (1000)) 1 (1000)) 2 (0))) := by rw [← ew22]; exact set_at c46_w21
  have gw22 : agr (fun i => i = a) w w22 := by rw [← ew22]; exact agr_fresh gw21 (by omega)
  have zw22 := gro_put (c' := cR 3 (uZ (uZ (uZ (fun _ => 0) 0 (1000)) 1 (1000)) 2 (0))) zw21 c46_w21 rfl
  rw [ew22] at zw22
  have sw22 : shAt w22 (fun i => i = a ∨ (n ≤ i ∧ i < n + 42)) (fun i => i = n + 42) a ((fun _ => none, fun _ _ => 0, 0, 313) : Sh) := by rw [← ew22]; exact sh_setx sw21 ⟨by omega, by omega⟩
  clear c44_w21 c45_w21 c43_w21 c46_w21 lw21 gw21 zw21 sw21 ew22
  refine pe_go (pc := 109) rfl (s_aast (kd := 3) (k := 2) (w' := w22.set (n + 43) (.inl (3, 4, rfs (va_up (va_up (va_up (fun _ => none) 0 (some (n + 44))) 1 (some (n + 45))) 2 (some (n + 46)))))) c43_w22 (holds_row c46_w22) rfl ⟨by decide, by decide⟩ rfl) ?_
  generalize ew23 : w22.set (n + 43) (.inl (3, 4, rfs (va_up (va_up (va_up (fun _ => none) 0 (some (n + 44))) 1 (some (n + 45))) 2 (some (n + 46))))) = w23
  have lw23 : w23.length = n + 47 := by rw [← ew23]; exact len_put lw22
  have c44_w23 : w23[n + 44]? = some (cR 3 (uZ (uZ (uZ (fun _ => 0) 0 (-1000)) 1 (-1000)) 2 (0))) := by rw [← ew23]; exact set_keep c44_w22 (by omega)
  have c45_w23 : w23[n + 45]? = some (cR 3 (uZ (uZ (uZ (fun _ => 0) 0 (1000)) 1 (-1000)) 2 (0))) := by rw [← ew23]; exact set_keep c45_w22 (by omega)
  have c46_w23 : w23[n + 46]? = some (cR 3 (uZ (uZ (uZ (fun _ => 0) 0 (1000)) 1 (1000)) 2 (0))) := by rw [← ew23]; exact set_keep c46_w22 (by omega)
  have c43_w23 : w23[n + 43]? = some (.inl (3, 4, rfs (va_up (va_up (va_up (fun _ => none) 0 (some (n + 44))) 1 (some (n + 45))) 2 (some (n + 46))))) := by rw [← ew23]; exact set_at c43_w22
  have gw23 : agr (fun i => i = a) w w23 := by rw [← ew23]; exact agr_fresh gw22 (by omega)
  have zw23 := gro_put (c' := .inl (3, 4, rfs (va_up (va_up (va_up (fun _ => none) 0 (some (n + 44))) 1 (some (n + 45))) 2 (some (n + 46))))) zw22 c43_w22 rfl
  rw [ew23] at zw23
  have sw23 : shAt w23 (fun i => i = a ∨ (n ≤ i ∧ i < n + 42)) (fun i => i = n + 42) a ((fun _ => none, fun _ _ => 0, 0, 313) : Sh) := by rw [← ew23]; exact sh_setx sw22 ⟨by omega, by omega⟩
  clear c44_w22 c45_w22 c43_w22 c46_w22 lw22 gw22 zw22 sw22 ew23
  refine pe_go (pc := 110) rfl (s_dup rfl) ?_
  refine pe_go (pc := 111) rfl (s_iconst (z := 3) rfl) ?_
  refine pe_go (pc := 112) rfl (s_iconst (z := 3) rfl) ?_
  refine pe_go (pc := 113) rfl (s_newI (n := 3) rfl (by decide)) ?_
  rw [lw23]
  generalize ew24 : w23 ++ [cR 3 (fun _ => 0)] = w24
  have lw24 : w24.length = n + 48 := by rw [← ew24]; exact len_more lw23 _
  have c44_w24 : w24[n + 44]? = some (cR 3 (uZ (uZ (uZ (fun _ => 0) 0 (-1000)) 1 (-1000)) 2 (0))) := by rw [← ew24]; exact app_keep c44_w23
  have c45_w24 : w24[n + 45]? = some (cR 3 (uZ (uZ (uZ (fun _ => 0) 0 (1000)) 1 (-1000)) 2 (0))) := by rw [← ew24]; exact app_keep c45_w23
  have c46_w24 : w24[n + 46]? = some (cR 3 (uZ (uZ (uZ (fun _ => 0) 0 (1000)) 1 (1000)) 2 (0))) := by rw [← ew24]; exact app_keep c46_w23
  have c43_w24 : w24[n + 43]? = some (.inl (3, 4, rfs (va_up (va_up (va_up (fun _ => none) 0 (some (n + 44))) 1 (some (n + 45))) 2 (some (n + 46))))) := by rw [← ew24]; exact app_keep c43_w23
  have gw24 : agr (fun i => i = a) w w24 := by rw [← ew24]; exact agr_more gw23 _
  have zw24 := gro_more zw23 (cR 3 (fun _ => 0)) (n' := 48) (m' := 1696) rfl rfl
  rw [ew24] at zw24
  have sw24 : shAt w24 (fun i => i = a ∨ (n ≤ i ∧ i < n + 42)) (fun i => i = n + 42) a ((fun _ => none, fun _ _ => 0, 0, 313) : Sh) := by rw [← ew24]; exact sh_agr (P := fun _ => False) sw23 agr_app (fun _ z => z.elim)
  have c47_w24 : w24[n + 47]? = some (cR 3 (fun _ => 0)) := by rw [← ew24]; exact new_at lw23 _
  clear c44_w23 c45_w23 c46_w23 c43_w23 lw23 gw23 zw23 sw23 ew24
  refine pe_go (pc := 115) rfl (s_dup rfl) ?_
  refine pe_go (pc := 116) rfl (s_iconst (z := 0) rfl) ?_
  refine pe_go (pc := 117) rfl (s_sipush (z := -1000) rfl) ?_
  refine pe_go (pc := 120) rfl (s_iast (f := (fun _ => 0)) (w' := w24.set (n + 47) (cR 3 (uZ (fun _ => 0) 0 (-1000)))) c47_w24 (k := 0) rfl (by decide) (by decide) rfl) ?_
  generalize ew25 : w24.set (n + 47) (cR 3 (uZ (fun _ => 0) 0 (-1000))) = w25
  have lw25 : w25.length = n + 48 := by rw [← ew25]; exact len_put lw24
  have c44_w25 : w25[n + 44]? = some (cR 3 (uZ (uZ (uZ (fun _ => 0) 0 (-1000)) 1 (-1000)) 2 (0))) := by rw [← ew25]; exact set_keep c44_w24 (by omega)
  have c45_w25 : w25[n + 45]? = some (cR 3 (uZ (uZ (uZ (fun _ => 0) 0 (1000)) 1 (-1000)) 2 (0))) := by rw [← ew25]; exact set_keep c45_w24 (by omega)
  have c46_w25 : w25[n + 46]? = some (cR 3 (uZ (uZ (uZ (fun _ => 0) 0 (1000)) 1 (1000)) 2 (0))) := by rw [← ew25]; exact set_keep c46_w24 (by omega)
  have c43_w25 : w25[n + 43]? = some (.inl (3, 4, rfs (va_up (va_up (va_up (fun _ => none) 0 (some (n + 44))) 1 (some (n + 45))) 2 (some (n + 46))))) := by rw [← ew25]; exact set_keep c43_w24 (by omega)
  have c47_w25 : w25[n + 47]? = some (cR 3 (uZ (fun _ => 0) 0 (-1000))) := by rw [← ew25]; exact set_at c47_w24
  have gw25 : agr (fun i => i = a) w w25 := by rw [← ew25]; exact agr_fresh gw24 (by omega)
  have zw25 := gro_put (c' := cR 3 (uZ (fun _ => 0) 0 (-1000))) zw24 c47_w24 rfl
  rw [ew25] at zw25
  have sw25 : shAt w25 (fun i => i = a ∨ (n ≤ i ∧ i < n + 42)) (fun i => i = n + 42) a ((fun _ => none, fun _ _ => 0, 0, 313) : Sh) := by rw [← ew25]; exact sh_setx sw24 ⟨by omega, by omega⟩
  clear c44_w24 c45_w24 c46_w24 c43_w24 c47_w24 lw24 gw24 zw24 sw24 ew25
  refine pe_go (pc := 121) rfl (s_dup rfl) ?_
  refine pe_go (pc := 122) rfl (s_iconst (z := 1) rfl) ?_
  refine pe_go (pc := 123) rfl (s_sipush (z := 1000) rfl) ?_
  refine pe_go (pc := 126) rfl (s_iast (f := (uZ (fun _ => 0) 0 (-1000))) (w' := w25.set (n + 47) (cR 3 (uZ (uZ (fun _ => 0) 0 (-1000)) 1 (1000)))) c47_w25 (k := 1) rfl (by decide) (by decide) rfl) ?_
  generalize ew26 : w25.set (n + 47) (cR 3 (uZ (uZ (fun _ => 0) 0 (-1000)) 1 (1000))) = w26
  have lw26 : w26.length = n + 48 := by rw [← ew26]; exact len_put lw25
  have c44_w26 : w26[n + 44]? = some (cR 3 (uZ (uZ (uZ (fun _ => 0) 0 (-1000)) 1 (-1000)) 2 (0))) := by rw [← ew26]; exact set_keep c44_w25 (by omega)
  have c45_w26 : w26[n + 45]? = some (cR 3 (uZ (uZ (uZ (fun _ => 0) 0 (1000)) 1 (-1000)) 2 (0))) := by rw [← ew26]; exact set_keep c45_w25 (by omega)
  have c46_w26 : w26[n + 46]? = some (cR 3 (uZ (uZ (uZ (fun _ => 0) 0 (1000)) 1 (1000)) 2 (0))) := by rw [← ew26]; exact set_keep c46_w25 (by omega)
  have c43_w26 : w26[n + 43]? = some (.inl (3, 4, rfs (va_up (va_up (va_up (fun _ => none) 0 (some (n + 44))) 1 (some (n + 45))) 2 (some (n + 46))))) := by rw [← ew26]; exact set_keep c43_w25 (by omega)
  have c47_w26 : w26[n + 47]? = some (cR 3 (uZ (uZ (fun _ => 0) 0 (-1000)) 1 (1000))) := by rw [← ew26]; exact set_at c47_w25
  have gw26 : agr (fun i => i = a) w w26 := by rw [← ew26]; exact agr_fresh gw25 (by omega)
  have zw26 := gro_put (c' := cR 3 (uZ (uZ (fun _ => 0) 0 (-1000)) 1 (1000))) zw25 c47_w25 rfl
  rw [ew26] at zw26
  have sw26 : shAt w26 (fun i => i = a ∨ (n ≤ i ∧ i < n + 42)) (fun i => i = n + 42) a ((fun _ => none, fun _ _ => 0, 0, 313) : Sh) := by rw [← ew26]; exact sh_setx sw25 ⟨by omega, by omega⟩
  clear c44_w25 c45_w25 c46_w25 c43_w25 c47_w25 lw25 gw25 zw25 sw25 ew26
  refine pe_go (pc := 127) rfl (s_dup rfl) ?_
  refine pe_go (pc := 128) rfl (s_iconst (z := 2) rfl) ?_
  refine pe_go (pc := 129) rfl (s_iconst (z := 0) rfl) ?_
  refine pe_go (pc := 130) rfl (s_iast (f := (uZ (uZ (fun _ => 0) 0 (-1000)) 1 (1000))) (w' := w26.set (n + 47) (cR 3 (uZ (uZ (uZ (fun _ => 0) 0 (-1000)) 1 (1000)) 2 (0)))) c47_w26 (k := 2) rfl (by decide) (by decide) rfl) ?_
  generalize ew27 : w26.set (n + 47) (cR 3 (uZ (uZ (uZ (fun _ => 0) 0 (-1000)) 1 (1000)) 2 (0))) = w27
  have lw27 : w27.length = n + 48 := by rw [← ew27]; exact len_put lw26
  have c44_w27 : w27[n + 44]? = some (cR 3 (uZ (uZ (uZ (fun _ => 0) 0 (-1000)) 1 (-1000)) 2 (0))) := by rw [← ew27]; exact set_keep c44_w26 (by omega)
  have c45_w27 : w27[n + 45]? = some (cR 3 (uZ (uZ (uZ (fun _ => 0) 0 (1000)) 1 (-1000)) 2 (0))) := by rw [← ew27]; exact set_keep c45_w26 (by omega)
  have c46_w27 : w27[n + 46]? = some (cR 3 (uZ (uZ (uZ (fun _ => 0) 0 (1000)) 1 (1000)) 2 (0))) := by rw [← ew27]; exact set_keep c46_w26 (by omega)
  have c43_w27 : w27[n + 43]? = some (.inl (3, 4, rfs (va_up (va_up (va_up (fun _ => none) 0 (some (n + 44))) 1 (some (n + 45))) 2 (some (n + 46))))) := by rw [← ew27]; exact set_keep c43_w26 (by omega)
  have c47_w27 : w27[n + 47]? = some (cR 3 (uZ (uZ (uZ (fun _ => 0) 0 (-1000)) 1 (1000)) 2 (0))) := by rw [← ew27]; exact set_at c47_w26
  have gw27 : agr (fun i => i = a) w w27 := by rw [← ew27]; exact agr_fresh gw26 (by omega)
  have zw27 := gro_put (c' := cR 3 (uZ (uZ (uZ (fun _ => 0) 0 (-1000)) 1 (1000)) 2 (0))) zw26 c47_w26 rfl
  rw [ew27] at zw27
  have sw27 : shAt w27 (fun i => i = a ∨ (n ≤ i ∧ i < n + 42)) (fun i => i = n + 42) a ((fun _ => none, fun _ _ => 0, 0, 313) : Sh) := by rw [← ew27]; exact sh_setx sw26 ⟨by omega, by omega⟩
  clear c44_w26 c45_w26 c46_w26 c43_w26 c47_w26 lw26 gw26 zw26 sw26 ew27
  refine pe_go (pc := 131) rfl (s_aast (kd := 3) (k := 3) (w' := w27.set (n + 43) (.inl (3, 4, rfs (va_up (va_up (va_up (va_up (fun _ => none) 0 (some (n + 44))) 1 (some (n + 45))) 2 (some (n + 46))) 3 (some (n + 47)))))) c43_w27 (holds_row c47_w27) rfl ⟨by decide, by decide⟩ rfl) ?_
  generalize ew28 : w27.set (n + 43) (.inl (3, 4, rfs (va_up (va_up (va_up (va_up (fun _ => none) 0 (some (n + 44))) 1 (some (n + 45))) 2 (some (n + 46))) 3 (some (n + 47))))) = w28
  have lw28 : w28.length = n + 48 := by rw [← ew28]; exact len_put lw27
  have c44_w28 : w28[n + 44]? = some (cR 3 (uZ (uZ (uZ (fun _ => 0) 0 (-1000)) 1 (-1000)) 2 (0))) := by rw [← ew28]; exact set_keep c44_w27 (by omega)
  have c45_w28 : w28[n + 45]? = some (cR 3 (uZ (uZ (uZ (fun _ => 0) 0 (1000)) 1 (-1000)) 2 (0))) := by rw [← ew28]; exact set_keep c45_w27 (by omega)
  have c46_w28 : w28[n + 46]? = some (cR 3 (uZ (uZ (uZ (fun _ => 0) 0 (1000)) 1 (1000)) 2 (0))) := by rw [← ew28]; exact set_keep c46_w27 (by omega)
  have c47_w28 : w28[n + 47]? = some (cR 3 (uZ (uZ (uZ (fun _ => 0) 0 (-1000)) 1 (1000)) 2 (0))) := by rw [← ew28]; exact set_keep c47_w27 (by omega)
  have c43_w28 : w28[n + 43]? = some (.inl (3, 4, rfs (va_up (va_up (va_up (va_up (fun _ => none) 0 (some (n + 44))) 1 (some (n + 45))) 2 (some (n + 46))) 3 (some (n + 47))))) := by rw [← ew28]; exact set_at c43_w27
  have gw28 : agr (fun i => i = a) w w28 := by rw [← ew28]; exact agr_fresh gw27 (by omega)
  have zw28 := gro_put (c' := .inl (3, 4, rfs (va_up (va_up (va_up (va_up (fun _ => none) 0 (some (n + 44))) 1 (some (n + 45))) 2 (some (n + 46))) 3 (some (n + 47))))) zw27 c43_w27 rfl
  rw [ew28] at zw28
  have sw28 : shAt w28 (fun i => i = a ∨ (n ≤ i ∧ i < n + 42)) (fun i => i = n + 42) a ((fun _ => none, fun _ _ => 0, 0, 313) : Sh) := by rw [← ew28]; exact sh_setx sw27 ⟨by omega, by omega⟩
  clear c44_w27 c45_w27 c46_w27 c43_w27 c47_w27 lw27 gw27 zw27 sw27 ew28
  refine pe_go (pc := 132) rfl (s_astore_n (lv' := [(1, .ref (n + 43)), (0, .ref a)]) rfl) ?_
  refine pe_go (pc := 133) rfl (s_iconst (z := 0) rfl) ?_
  refine pe_go (pc := 134) rfl (s_istore_n (lv' := [(2, .int (iI 0)), (1, .ref (n + 43)), (0, .ref a)]) rfl) ?_
  have t0 : shAt w28 (fun i => i = a ∨ (n ≤ i ∧ i < n + 42)) (fun i => n + 42 ≤ i ∧ i ≠ n + 43) a ((fun _ => none, fun _ _ => 0, 0, 313) : Sh) := sh_mono sw28 (fun _ _ z => z) (fun i _ z => by have z : i = n + 42 := z; exact ⟨by omega, by omega⟩)
  refine pe_go (pc := 135) rfl (s_iload_n rfl) ?_
  refine pe_go (pc := 136) rfl (s_iconst (z := 4) rfl) ?_
  refine pe_go (pc := 137) rfl (s_icmp_ge_f ⟨by decide, by decide⟩ ⟨by decide, by decide⟩ (by decide)) ?_
  obtain ⟨pa0, fa0, ha0, pf0, gf0, hf0, ff0, hP0⟩ := t0
  obtain ⟨O00, O10, -⟩ := hP0.1
  have hpa0 : pa0 ≠ n + 43 ∧ pa0 ≠ n + 44 ∧ pa0 ≠ n + 45 ∧ pa0 ≠ n + 46 ∧ pa0 ≠ n + 47 := by have := O10; omega
  refine pe_go (pc := 140) rfl (s_aload_n rfl) ?_
  refine pe_go (pc := 141) rfl (s_getf (v := .ref pa0) hP0.2.1 rfl) ?_
  refine pe_go (pc := 144) rfl (s_iload_n rfl) ?_
  refine pe_go (pc := 145) rfl (s_aload_n rfl) ?_
  refine pe_go (pc := 146) rfl (s_iload_n rfl) ?_
  refine pe_go (pc := 147) rfl (s_aald (kd := 0) (k := 0) (r := n + 44) c43_w28 rfl ⟨by decide, by decide, by decide⟩ rfl) ?_
  refine pe_go (pc := 148) rfl (s_aast (kd := 3) (k := 0) (w' := w28.set pa0 (.inl (3, 40, rfs (va_up pf0 0 (some (n + 44)))))) hP0.2.2.1 (holds_row c44_w28) rfl ⟨by decide, by decide⟩ rfl) ?_
  have u0 := sh_pt hP0 (p := 0) (r := n + 44) (x := -1000) (y := -1000) (z := 0) c44_w28 ⟨by omega, by omega⟩
  have zw29 := gro_put (c' := .inl (3, 40, rfs (va_up pf0 0 (some (n + 44))))) zw28 hP0.2.2.1 rfl
  have gw29 : agr (fun i => i = a) w (w28.set pa0 (.inl (3, 40, rfs (va_up pf0 0 (some (n + 44)))))) := by rcases O10 with q | q; exact agr_trans gw28 (agr_set (P := fun i => i = a) q) (fun _ z => z); exact agr_fresh gw28 (by omega)
  generalize ew29 : w28.set pa0 (.inl (3, 40, rfs (va_up pf0 0 (some (n + 44))))) = w29 at u0 zw29 gw29 ⊢
  have c44_w29 : w29[n + 44]? = some (cR 3 (uZ (uZ (uZ (fun _ => 0) 0 (-1000)) 1 (-1000)) 2 (0))) := by rw [← ew29]; exact set_keep c44_w28 (by omega)
  have c45_w29 : w29[n + 45]? = some (cR 3 (uZ (uZ (uZ (fun _ => 0) 0 (1000)) 1 (-1000)) 2 (0))) := by rw [← ew29]; exact set_keep c45_w28 (by omega)
  have c46_w29 : w29[n + 46]? = some (cR 3 (uZ (uZ (uZ (fun _ => 0) 0 (1000)) 1 (1000)) 2 (0))) := by rw [← ew29]; exact set_keep c46_w28 (by omega)
  have c47_w29 : w29[n + 47]? = some (cR 3 (uZ (uZ (uZ (fun _ => 0) 0 (-1000)) 1 (1000)) 2 (0))) := by rw [← ew29]; exact set_keep c47_w28 (by omega)
  have c43_w29 : w29[n + 43]? = some (.inl (3, 4, rfs (va_up (va_up (va_up (va_up (fun _ => none) 0 (some (n + 44))) 1 (some (n + 45))) 2 (some (n + 46))) 3 (some (n + 47))))) := by rw [← ew29]; exact set_keep c43_w28 (by omega)
  refine pe_go (pc := 149) rfl (s_aload_n rfl) ?_
  refine pe_go (pc := 150) rfl (s_iload_n rfl) ?_
  refine pe_go (pc := 151) rfl (s_iload_n rfl) ?_
  refine pe_go (pc := 152) rfl (s_iconst (z := 1) rfl) ?_
  refine pe_go (q := (154, [(2, .int (iI 0)), (1, .ref (n + 43)), (0, .ref a)], [.int (iI 1), .int (iI 0), .ref a], w29)) rfl s_iadd ?_
  refine pe_go (pc := 154) rfl (s_iconst (z := 4) rfl) ?_
  refine pe_go (pc := 155) rfl (s_irem (z := 1) ⟨by decide, by decide⟩ ⟨by decide, by decide⟩ (by decide) (by decide) (by decide)) ?_
  refine pe_go (pc := 156) rfl (s_iconst (z := 2) rfl) ?_
  refine pe_callE rfl (s_invV rfl u0.2.1 rfl rfl) (w_fixes (X := (Sh.uP ((fun _ => none, fun _ _ => 0, 0, 313) : Sh) 0 (some (-1000, -1000, 0)))) ⟨_, _, _, _, _, _, _, u0⟩ (p := 0) (q := 1) (by decide) (by decide) 2) ?_
  rintro _ w30 ⟨rfl, t1, o0⟩
  have c44_w30 : w30[n + 44]? = some (cR 3 (uZ (uZ (uZ (fun _ => 0) 0 (-1000)) 1 (-1000)) 2 (0))) := (o0.1.2 _ (get_lt c44_w29) (by omega)).trans c44_w29
  have c45_w30 : w30[n + 45]? = some (cR 3 (uZ (uZ (uZ (fun _ => 0) 0 (1000)) 1 (-1000)) 2 (0))) := (o0.1.2 _ (get_lt c45_w29) (by omega)).trans c45_w29
  have c46_w30 : w30[n + 46]? = some (cR 3 (uZ (uZ (uZ (fun _ => 0) 0 (1000)) 1 (1000)) 2 (0))) := (o0.1.2 _ (get_lt c46_w29) (by omega)).trans c46_w29
  have c47_w30 : w30[n + 47]? = some (cR 3 (uZ (uZ (uZ (fun _ => 0) 0 (-1000)) 1 (1000)) 2 (0))) := (o0.1.2 _ (get_lt c47_w29) (by omega)).trans c47_w29
  have c43_w30 : w30[n + 43]? = some (.inl (3, 4, rfs (va_up (va_up (va_up (va_up (fun _ => none) 0 (some (n + 44))) 1 (some (n + 45))) 2 (some (n + 46))) 3 (some (n + 47))))) := (o0.1.2 _ (get_lt c43_w29) (by omega)).trans c43_w29
  have zw30 := gro_trans zw29 o0.2
  have gw30 : agr (fun i => i = a) w w30 := ⟨Nat.le_trans (gw29).1 o0.1.1, fun i9 h1 h2 => (o0.1.2 i9 (Nat.lt_of_lt_of_le h1 (gw29).1) (by have h2 : ¬ i9 = a := h2; omega)).trans ((gw29).2 i9 h1 h2)⟩
  refine pe_go (pc := 160) rfl (s_iinc (x := 0) (y := 1) rfl (by omega) (lv' := [(2, .int (iI 1)), (1, .ref (n + 43)), (0, .ref a)]) rfl) ?_
  refine pe_go (pc := 163) rfl s_goto ?_
  refine pe_go (pc := 135) rfl (s_iload_n rfl) ?_
  refine pe_go (pc := 136) rfl (s_iconst (z := 4) rfl) ?_
  refine pe_go (pc := 137) rfl (s_icmp_ge_f ⟨by decide, by decide⟩ ⟨by decide, by decide⟩ (by decide)) ?_
  obtain ⟨pa1, fa1, ha1, pf1, gf1, hf1, ff1, hP1⟩ := t1
  obtain ⟨O01, O11, -⟩ := hP1.1
  have hpa1 : pa1 ≠ n + 43 ∧ pa1 ≠ n + 44 ∧ pa1 ≠ n + 45 ∧ pa1 ≠ n + 46 ∧ pa1 ≠ n + 47 := by have := O11; omega
  refine pe_go (pc := 140) rfl (s_aload_n rfl) ?_
  refine pe_go (pc := 141) rfl (s_getf (v := .ref pa1) hP1.2.1 rfl) ?_
  refine pe_go (pc := 144) rfl (s_iload_n rfl) ?_
  refine pe_go (pc := 145) rfl (s_aload_n rfl) ?_
  refine pe_go (pc := 146) rfl (s_iload_n rfl) ?_
  refine pe_go (pc := 147) rfl (s_aald (kd := 0) (k := 1) (r := n + 45) c43_w30 rfl ⟨by decide, by decide, by decide⟩ rfl) ?_
  refine pe_go (pc := 148) rfl (s_aast (kd := 3) (k := 1) (w' := w30.set pa1 (.inl (3, 40, rfs (va_up pf1 1 (some (n + 45)))))) hP1.2.2.1 (holds_row c45_w30) rfl ⟨by decide, by decide⟩ rfl) ?_
  have u1 := sh_pt hP1 (p := 1) (r := n + 45) (x := 1000) (y := -1000) (z := 0) c45_w30 ⟨by omega, by omega⟩
  have zw31 := gro_put (c' := .inl (3, 40, rfs (va_up pf1 1 (some (n + 45))))) zw30 hP1.2.2.1 rfl
  have gw31 : agr (fun i => i = a) w (w30.set pa1 (.inl (3, 40, rfs (va_up pf1 1 (some (n + 45)))))) := by rcases O11 with q | q; exact agr_trans gw30 (agr_set (P := fun i => i = a) q) (fun _ z => z); exact agr_fresh gw30 (by omega)
  generalize ew31 : w30.set pa1 (.inl (3, 40, rfs (va_up pf1 1 (some (n + 45))))) = w31 at u1 zw31 gw31 ⊢
  have c44_w31 : w31[n + 44]? = some (cR 3 (uZ (uZ (uZ (fun _ => 0) 0 (-1000)) 1 (-1000)) 2 (0))) := by rw [← ew31]; exact set_keep c44_w30 (by omega)
  have c45_w31 : w31[n + 45]? = some (cR 3 (uZ (uZ (uZ (fun _ => 0) 0 (1000)) 1 (-1000)) 2 (0))) := by rw [← ew31]; exact set_keep c45_w30 (by omega)
  have c46_w31 : w31[n + 46]? = some (cR 3 (uZ (uZ (uZ (fun _ => 0) 0 (1000)) 1 (1000)) 2 (0))) := by rw [← ew31]; exact set_keep c46_w30 (by omega)
  have c47_w31 : w31[n + 47]? = some (cR 3 (uZ (uZ (uZ (fun _ => 0) 0 (-1000)) 1 (1000)) 2 (0))) := by rw [← ew31]; exact set_keep c47_w30 (by omega)
  have c43_w31 : w31[n + 43]? = some (.inl (3, 4, rfs (va_up (va_up (va_up (va_up (fun _ => none) 0 (some (n + 44))) 1 (some (n + 45))) 2 (some (n + 46))) 3 (some (n + 47))))) := by rw [← ew31]; exact set_keep c43_w30 (by omega)
  refine pe_go (pc := 149) rfl (s_aload_n rfl) ?_
  refine pe_go (pc := 150) rfl (s_iload_n rfl) ?_
  refine pe_go (pc := 151) rfl (s_iload_n rfl) ?_
  refine pe_go (pc := 152) rfl (s_iconst (z := 1) rfl) ?_
  refine pe_go (q := (154, [(2, .int (iI 1)), (1, .ref (n + 43)), (0, .ref a)], [.int (iI 2), .int (iI 1), .ref a], w31)) rfl s_iadd ?_
  refine pe_go (pc := 154) rfl (s_iconst (z := 4) rfl) ?_
  refine pe_go (pc := 155) rfl (s_irem (z := 2) ⟨by decide, by decide⟩ ⟨by decide, by decide⟩ (by decide) (by decide) (by decide)) ?_
  refine pe_go (pc := 156) rfl (s_iconst (z := 2) rfl) ?_
  refine pe_callE rfl (s_invV rfl u1.2.1 rfl rfl) (w_fixes (X := (Sh.uP (Sh.fixes (Sh.uP ((fun _ => none, fun _ _ => 0, 0, 313) : Sh) 0 (some (-1000, -1000, 0))) 0 1 2) 1 (some (1000, -1000, 0)))) ⟨_, _, _, _, _, _, _, u1⟩ (p := 1) (q := 2) (by decide) (by decide) 2) ?_
  rintro _ w32 ⟨rfl, t2, o1⟩
  have c44_w32 : w32[n + 44]? = some (cR 3 (uZ (uZ (uZ (fun _ => 0) 0 (-1000)) 1 (-1000)) 2 (0))) := (o1.1.2 _ (get_lt c44_w31) (by omega)).trans c44_w31
  have c45_w32 : w32[n + 45]? = some (cR 3 (uZ (uZ (uZ (fun _ => 0) 0 (1000)) 1 (-1000)) 2 (0))) := (o1.1.2 _ (get_lt c45_w31) (by omega)).trans c45_w31
  have c46_w32 : w32[n + 46]? = some (cR 3 (uZ (uZ (uZ (fun _ => 0) 0 (1000)) 1 (1000)) 2 (0))) := (o1.1.2 _ (get_lt c46_w31) (by omega)).trans c46_w31
  have c47_w32 : w32[n + 47]? = some (cR 3 (uZ (uZ (uZ (fun _ => 0) 0 (-1000)) 1 (1000)) 2 (0))) := (o1.1.2 _ (get_lt c47_w31) (by omega)).trans c47_w31
  have c43_w32 : w32[n + 43]? = some (.inl (3, 4, rfs (va_up (va_up (va_up (va_up (fun _ => none) 0 (some (n + 44))) 1 (some (n + 45))) 2 (some (n + 46))) 3 (some (n + 47))))) := (o1.1.2 _ (get_lt c43_w31) (by omega)).trans c43_w31
  have zw32 := gro_trans zw31 o1.2
  have gw32 : agr (fun i => i = a) w w32 := ⟨Nat.le_trans (gw31).1 o1.1.1, fun i9 h1 h2 => (o1.1.2 i9 (Nat.lt_of_lt_of_le h1 (gw31).1) (by have h2 : ¬ i9 = a := h2; omega)).trans ((gw31).2 i9 h1 h2)⟩
  refine pe_go (pc := 160) rfl (s_iinc (x := 1) (y := 2) rfl (by omega) (lv' := [(2, .int (iI 2)), (1, .ref (n + 43)), (0, .ref a)]) rfl) ?_
  refine pe_go (pc := 163) rfl s_goto ?_
  refine pe_go (pc := 135) rfl (s_iload_n rfl) ?_
  refine pe_go (pc := 136) rfl (s_iconst (z := 4) rfl) ?_
  refine pe_go (pc := 137) rfl (s_icmp_ge_f ⟨by decide, by decide⟩ ⟨by decide, by decide⟩ (by decide)) ?_
  obtain ⟨pa2, fa2, ha2, pf2, gf2, hf2, ff2, hP2⟩ := t2
  obtain ⟨O02, O12, -⟩ := hP2.1
  have hpa2 : pa2 ≠ n + 43 ∧ pa2 ≠ n + 44 ∧ pa2 ≠ n + 45 ∧ pa2 ≠ n + 46 ∧ pa2 ≠ n + 47 := by have := O12; omega
  refine pe_go (pc := 140) rfl (s_aload_n rfl) ?_
  refine pe_go (pc := 141) rfl (s_getf (v := .ref pa2) hP2.2.1 rfl) ?_
  refine pe_go (pc := 144) rfl (s_iload_n rfl) ?_
  refine pe_go (pc := 145) rfl (s_aload_n rfl) ?_
  refine pe_go (pc := 146) rfl (s_iload_n rfl) ?_
  refine pe_go (pc := 147) rfl (s_aald (kd := 0) (k := 2) (r := n + 46) c43_w32 rfl ⟨by decide, by decide, by decide⟩ rfl) ?_
  refine pe_go (pc := 148) rfl (s_aast (kd := 3) (k := 2) (w' := w32.set pa2 (.inl (3, 40, rfs (va_up pf2 2 (some (n + 46)))))) hP2.2.2.1 (holds_row c46_w32) rfl ⟨by decide, by decide⟩ rfl) ?_
  have u2 := sh_pt hP2 (p := 2) (r := n + 46) (x := 1000) (y := 1000) (z := 0) c46_w32 ⟨by omega, by omega⟩
  have zw33 := gro_put (c' := .inl (3, 40, rfs (va_up pf2 2 (some (n + 46))))) zw32 hP2.2.2.1 rfl
  have gw33 : agr (fun i => i = a) w (w32.set pa2 (.inl (3, 40, rfs (va_up pf2 2 (some (n + 46)))))) := by rcases O12 with q | q; exact agr_trans gw32 (agr_set (P := fun i => i = a) q) (fun _ z => z); exact agr_fresh gw32 (by omega)
  generalize ew33 : w32.set pa2 (.inl (3, 40, rfs (va_up pf2 2 (some (n + 46))))) = w33 at u2 zw33 gw33 ⊢
  have c44_w33 : w33[n + 44]? = some (cR 3 (uZ (uZ (uZ (fun _ => 0) 0 (-1000)) 1 (-1000)) 2 (0))) := by rw [← ew33]; exact set_keep c44_w32 (by omega)
  have c45_w33 : w33[n + 45]? = some (cR 3 (uZ (uZ (uZ (fun _ => 0) 0 (1000)) 1 (-1000)) 2 (0))) := by rw [← ew33]; exact set_keep c45_w32 (by omega)
  have c46_w33 : w33[n + 46]? = some (cR 3 (uZ (uZ (uZ (fun _ => 0) 0 (1000)) 1 (1000)) 2 (0))) := by rw [← ew33]; exact set_keep c46_w32 (by omega)
  have c47_w33 : w33[n + 47]? = some (cR 3 (uZ (uZ (uZ (fun _ => 0) 0 (-1000)) 1 (1000)) 2 (0))) := by rw [← ew33]; exact set_keep c47_w32 (by omega)
  have c43_w33 : w33[n + 43]? = some (.inl (3, 4, rfs (va_up (va_up (va_up (va_up (fun _ => none) 0 (some (n + 44))) 1 (some (n + 45))) 2 (some (n + 46))) 3 (some (n + 47))))) := by rw [← ew33]; exact set_keep c43_w32 (by omega)
  refine pe_go (pc := 149) rfl (s_aload_n rfl) ?_
  refine pe_go (pc := 150) rfl (s_iload_n rfl) ?_
  refine pe_go (pc := 151) rfl (s_iload_n rfl) ?_
  refine pe_go (pc := 152) rfl (s_iconst (z := 1) rfl) ?_
  refine pe_go (q := (154, [(2, .int (iI 2)), (1, .ref (n + 43)), (0, .ref a)], [.int (iI 3), .int (iI 2), .ref a], w33)) rfl s_iadd ?_
  refine pe_go (pc := 154) rfl (s_iconst (z := 4) rfl) ?_
  refine pe_go (pc := 155) rfl (s_irem (z := 3) ⟨by decide, by decide⟩ ⟨by decide, by decide⟩ (by decide) (by decide) (by decide)) ?_
  refine pe_go (pc := 156) rfl (s_iconst (z := 2) rfl) ?_
  refine pe_callE rfl (s_invV rfl u2.2.1 rfl rfl) (w_fixes (X := (Sh.uP (Sh.fixes (Sh.uP (Sh.fixes (Sh.uP ((fun _ => none, fun _ _ => 0, 0, 313) : Sh) 0 (some (-1000, -1000, 0))) 0 1 2) 1 (some (1000, -1000, 0))) 1 2 2) 2 (some (1000, 1000, 0)))) ⟨_, _, _, _, _, _, _, u2⟩ (p := 2) (q := 3) (by decide) (by decide) 2) ?_
  rintro _ w34 ⟨rfl, t3, o2⟩
  have c44_w34 : w34[n + 44]? = some (cR 3 (uZ (uZ (uZ (fun _ => 0) 0 (-1000)) 1 (-1000)) 2 (0))) := (o2.1.2 _ (get_lt c44_w33) (by omega)).trans c44_w33
  have c45_w34 : w34[n + 45]? = some (cR 3 (uZ (uZ (uZ (fun _ => 0) 0 (1000)) 1 (-1000)) 2 (0))) := (o2.1.2 _ (get_lt c45_w33) (by omega)).trans c45_w33
  have c46_w34 : w34[n + 46]? = some (cR 3 (uZ (uZ (uZ (fun _ => 0) 0 (1000)) 1 (1000)) 2 (0))) := (o2.1.2 _ (get_lt c46_w33) (by omega)).trans c46_w33
  have c47_w34 : w34[n + 47]? = some (cR 3 (uZ (uZ (uZ (fun _ => 0) 0 (-1000)) 1 (1000)) 2 (0))) := (o2.1.2 _ (get_lt c47_w33) (by omega)).trans c47_w33
  have c43_w34 : w34[n + 43]? = some (.inl (3, 4, rfs (va_up (va_up (va_up (va_up (fun _ => none) 0 (some (n + 44))) 1 (some (n + 45))) 2 (some (n + 46))) 3 (some (n + 47))))) := (o2.1.2 _ (get_lt c43_w33) (by omega)).trans c43_w33
  have zw34 := gro_trans zw33 o2.2
  have gw34 : agr (fun i => i = a) w w34 := ⟨Nat.le_trans (gw33).1 o2.1.1, fun i9 h1 h2 => (o2.1.2 i9 (Nat.lt_of_lt_of_le h1 (gw33).1) (by have h2 : ¬ i9 = a := h2; omega)).trans ((gw33).2 i9 h1 h2)⟩
  refine pe_go (pc := 160) rfl (s_iinc (x := 2) (y := 3) rfl (by omega) (lv' := [(2, .int (iI 3)), (1, .ref (n + 43)), (0, .ref a)]) rfl) ?_
  refine pe_go (pc := 163) rfl s_goto ?_
  refine pe_go (pc := 135) rfl (s_iload_n rfl) ?_
  refine pe_go (pc := 136) rfl (s_iconst (z := 4) rfl) ?_
  refine pe_go (pc := 137) rfl (s_icmp_ge_f ⟨by decide, by decide⟩ ⟨by decide, by decide⟩ (by decide)) ?_
  obtain ⟨pa3, fa3, ha3, pf3, gf3, hf3, ff3, hP3⟩ := t3
  obtain ⟨O03, O13, -⟩ := hP3.1
  have hpa3 : pa3 ≠ n + 43 ∧ pa3 ≠ n + 44 ∧ pa3 ≠ n + 45 ∧ pa3 ≠ n + 46 ∧ pa3 ≠ n + 47 := by have := O13; omega
  refine pe_go (pc := 140) rfl (s_aload_n rfl) ?_
  refine pe_go (pc := 141) rfl (s_getf (v := .ref pa3) hP3.2.1 rfl) ?_
  refine pe_go (pc := 144) rfl (s_iload_n rfl) ?_
  refine pe_go (pc := 145) rfl (s_aload_n rfl) ?_
  refine pe_go (pc := 146) rfl (s_iload_n rfl) ?_
  refine pe_go (pc := 147) rfl (s_aald (kd := 0) (k := 3) (r := n + 47) c43_w34 rfl ⟨by decide, by decide, by decide⟩ rfl) ?_
  refine pe_go (pc := 148) rfl (s_aast (kd := 3) (k := 3) (w' := w34.set pa3 (.inl (3, 40, rfs (va_up pf3 3 (some (n + 47)))))) hP3.2.2.1 (holds_row c47_w34) rfl ⟨by decide, by decide⟩ rfl) ?_
  have u3 := sh_pt hP3 (p := 3) (r := n + 47) (x := -1000) (y := 1000) (z := 0) c47_w34 ⟨by omega, by omega⟩
  have zw35 := gro_put (c' := .inl (3, 40, rfs (va_up pf3 3 (some (n + 47))))) zw34 hP3.2.2.1 rfl
  have gw35 : agr (fun i => i = a) w (w34.set pa3 (.inl (3, 40, rfs (va_up pf3 3 (some (n + 47)))))) := by rcases O13 with q | q; exact agr_trans gw34 (agr_set (P := fun i => i = a) q) (fun _ z => z); exact agr_fresh gw34 (by omega)
  generalize ew35 : w34.set pa3 (.inl (3, 40, rfs (va_up pf3 3 (some (n + 47))))) = w35 at u3 zw35 gw35 ⊢
  have c44_w35 : w35[n + 44]? = some (cR 3 (uZ (uZ (uZ (fun _ => 0) 0 (-1000)) 1 (-1000)) 2 (0))) := by rw [← ew35]; exact set_keep c44_w34 (by omega)
  have c45_w35 : w35[n + 45]? = some (cR 3 (uZ (uZ (uZ (fun _ => 0) 0 (1000)) 1 (-1000)) 2 (0))) := by rw [← ew35]; exact set_keep c45_w34 (by omega)
  have c46_w35 : w35[n + 46]? = some (cR 3 (uZ (uZ (uZ (fun _ => 0) 0 (1000)) 1 (1000)) 2 (0))) := by rw [← ew35]; exact set_keep c46_w34 (by omega)
  have c47_w35 : w35[n + 47]? = some (cR 3 (uZ (uZ (uZ (fun _ => 0) 0 (-1000)) 1 (1000)) 2 (0))) := by rw [← ew35]; exact set_keep c47_w34 (by omega)
  have c43_w35 : w35[n + 43]? = some (.inl (3, 4, rfs (va_up (va_up (va_up (va_up (fun _ => none) 0 (some (n + 44))) 1 (some (n + 45))) 2 (some (n + 46))) 3 (some (n + 47))))) := by rw [← ew35]; exact set_keep c43_w34 (by omega)
  refine pe_go (pc := 149) rfl (s_aload_n rfl) ?_
  refine pe_go (pc := 150) rfl (s_iload_n rfl) ?_
  refine pe_go (pc := 151) rfl (s_iload_n rfl) ?_
  refine pe_go (pc := 152) rfl (s_iconst (z := 1) rfl) ?_
  refine pe_go (q := (154, [(2, .int (iI 3)), (1, .ref (n + 43)), (0, .ref a)], [.int (iI 4), .int (iI 3), .ref a], w35)) rfl s_iadd ?_
  refine pe_go (pc := 154) rfl (s_iconst (z := 4) rfl) ?_
  refine pe_go (pc := 155) rfl (s_irem (z := 0) ⟨by decide, by decide⟩ ⟨by decide, by decide⟩ (by decide) (by decide) (by decide)) ?_
  refine pe_go (pc := 156) rfl (s_iconst (z := 2) rfl) ?_
  refine pe_callE rfl (s_invV rfl u3.2.1 rfl rfl) (w_fixes (X := (Sh.uP (Sh.fixes (Sh.uP (Sh.fixes (Sh.uP (Sh.fixes (Sh.uP ((fun _ => none, fun _ _ => 0, 0, 313) : Sh) 0 (some (-1000, -1000, 0))) 0 1 2) 1 (some (1000, -1000, 0))) 1 2 2) 2 (some (1000, 1000, 0))) 2 3 2) 3 (some (-1000, 1000, 0)))) ⟨_, _, _, _, _, _, _, u3⟩ (p := 3) (q := 0) (by decide) (by decide) 2) ?_
  rintro _ w36 ⟨rfl, t4, o3⟩
  have c44_w36 : w36[n + 44]? = some (cR 3 (uZ (uZ (uZ (fun _ => 0) 0 (-1000)) 1 (-1000)) 2 (0))) := (o3.1.2 _ (get_lt c44_w35) (by omega)).trans c44_w35
  have c45_w36 : w36[n + 45]? = some (cR 3 (uZ (uZ (uZ (fun _ => 0) 0 (1000)) 1 (-1000)) 2 (0))) := (o3.1.2 _ (get_lt c45_w35) (by omega)).trans c45_w35
  have c46_w36 : w36[n + 46]? = some (cR 3 (uZ (uZ (uZ (fun _ => 0) 0 (1000)) 1 (1000)) 2 (0))) := (o3.1.2 _ (get_lt c46_w35) (by omega)).trans c46_w35
  have c47_w36 : w36[n + 47]? = some (cR 3 (uZ (uZ (uZ (fun _ => 0) 0 (-1000)) 1 (1000)) 2 (0))) := (o3.1.2 _ (get_lt c47_w35) (by omega)).trans c47_w35
  have c43_w36 : w36[n + 43]? = some (.inl (3, 4, rfs (va_up (va_up (va_up (va_up (fun _ => none) 0 (some (n + 44))) 1 (some (n + 45))) 2 (some (n + 46))) 3 (some (n + 47))))) := (o3.1.2 _ (get_lt c43_w35) (by omega)).trans c43_w35
  have zw36 := gro_trans zw35 o3.2
  have gw36 : agr (fun i => i = a) w w36 := ⟨Nat.le_trans (gw35).1 o3.1.1, fun i9 h1 h2 => (o3.1.2 i9 (Nat.lt_of_lt_of_le h1 (gw35).1) (by have h2 : ¬ i9 = a := h2; omega)).trans ((gw35).2 i9 h1 h2)⟩
  refine pe_go (pc := 160) rfl (s_iinc (x := 3) (y := 4) rfl (by omega) (lv' := [(2, .int (iI 4)), (1, .ref (n + 43)), (0, .ref a)]) rfl) ?_
  refine pe_go (pc := 163) rfl s_goto ?_
  refine pe_go (pc := 135) rfl (s_iload_n rfl) ?_
  refine pe_go (pc := 136) rfl (s_iconst (z := 4) rfl) ?_
  refine pe_go (pc := 137) rfl (s_icmp_ge_t ⟨by decide, by decide⟩ ⟨by decide, by decide⟩ (by decide)) ?_
  exact pe_ret rfl s_retv ⟨rfl, t4, gw36, gro_mono zw36 (by decide) (by decide)⟩
