/-! THE LAW: a place against the circle of three points. Rows laid by program (wip/p63/wk.py, mk98k.py). -/
theorem s_newR0 {pc n k e m : Nat} {ix : Nat} {lv : pLv} {st : List Value} {w : pW} {z : Int} (hm : w.length = m) (hz : z = (n : Int)) (hn : n ≤ 60000000) : pS1 (.anewarray ix) pc [k, e] lv (.int (iI z) :: st) w = some (.inl (pc + 3, lv, .ref m :: st, w ++ [.inl (k, n, rfs (fun _ => none))])) := by
  subst hm
  exact s_newR hz hn
theorem s_newRP {pre l l' : pW} {m k n c e pc : Nat} {ix : Nat} {lv : pLv} {st : List Value} {z : Int} (hm : pre.length = m) (hl : l.length = k) (hz : z = (n : Int)) (hn : n ≤ 60000000) (hl' : l ++ [.inl (c, n, rfs (fun _ => none))] = l') : pS1 (.anewarray ix) pc [c, e] lv (.int (iI z) :: st) (pre ++ l) = some (.inl (pc + 3, lv, .ref (m + k) :: st, pre ++ l')) := by
  rw [s_newR hz hn, List.append_assoc, hl', List.length_append, hm, hl]
theorem row_app {w l : pW} {a n : Nat} {f : Nat → Int} (h : rowI w a n f) : rowI (w ++ l) a n f := by
  unfold rowI at h ⊢
  have : a < w.length := by
    rcases Nat.lt_or_ge a w.length with z | z
    · exact z
    · rw [List.getElem?_eq_none z] at h; cases h
  rw [List.getElem?_append_left this]
  exact h
theorem holds_l {w : pW} {r n : Nat} {f : (Nat → Int32) ⊕ (Nat → Int64) ⊕ (Nat → UInt32) ⊕ (Nat → UInt64) ⊕ (Nat → Option Nat)} (h : w[r]? = some (.inl (1, n, f))) : pHolds 4 w[r]? = true := by
  rw [h]
  rfl
/-- the circle's determinant as the law sums it up -/
def inD (px py qx qy rx ry cx cy : Int) : Int :=
  let z := fun x y : Int => x * x + y * y
  0 + z (px - cx) (py - cy) * ((qx - cx) * (ry - cy) - (qy - cy) * (rx - cx)) + z (qx - cx) (qy - cy) * ((rx - cx) * (py - cy) - (ry - cy) * (px - cx)) + z (rx - cx) (ry - cy) * ((px - cx) * (qy - cy) - (py - cy) * (qx - cx))
theorem w_inside {w : pW} {m : Nat} (hm : w.length = m) {p q r c : Nat} {px py pz : Int} (hp : rowI w p 3 (row3 px py pz)) (p1 : -1000 ≤ px ∧ px ≤ 1000) (p2 : -1000 ≤ py ∧ py ≤ 1000) {qx qy qz : Int} (hq : rowI w q 3 (row3 qx qy qz)) (q1 : -1000 ≤ qx ∧ qx ≤ 1000) (q2 : -1000 ≤ qy ∧ qy ≤ 1000) {rx ry rz : Int} (hr : rowI w r 3 (row3 rx ry rz)) (r1 : -1000 ≤ rx ∧ rx ≤ 1000) (r2 : -1000 ≤ ry ∧ ry ≤ 1000) {cx cy cz : Int} (hc : rowI w c 3 (row3 cx cy cz)) (c1 : -1000 ≤ cx ∧ cx ≤ 1000) (c2 : -1000 ≤ cy ∧ cy ≤ 1000) : qC 149 [.ref p, .ref q, .ref r, .ref c] w (fun r' w' => r' = some (.long (lI (inD px py qx qy rx ry cx cy))) ∧ ∃ l, w' = w ++ l ∧ l.length = 5 ∧ pwsz l = 15) := by
  refine pc_run (lv := [(0, .ref p), (1, .ref q), (2, .ref r), (3, .ref c)]) rfl ?_
  refine pe_go (pc := 0) rfl (s_iconst (z := 3) rfl) ?_
  refine pe_go (pc := 1) rfl (s_newR0 hm rfl (by decide)) ?_
  refine pe_go (pc := 4) rfl (s_astore (lv' := [(4, .ref m), (0, .ref p), (1, .ref q), (2, .ref r), (3, .ref c)]) rfl) ?_
  refine pe_go (pc := 6) rfl (s_iconst (z := 3) rfl) ?_
  refine pe_go (pc := 7) rfl (s_newRP (l' := [.inl (4, 3, rfs (fun _ => none)), .inl (3, 3, rfs (fun _ => none))]) hm rfl rfl (by decide) rfl) ?_
  refine pe_go (pc := 10) rfl (s_dup rfl) ?_
  refine pe_go (pc := 11) rfl (s_iconst (z := 0) rfl) ?_
  refine pe_go (pc := 12) rfl (s_aload_n rfl) ?_
  refine pe_go (pc := 13) rfl (s_aast (n := 3) (w' := w ++ [.inl (4, 3, rfs (fun _ => none)), .inl (3, 3, rfs (va_up (fun _ => none) 0 (some p)))]) (gA hm rfl) (holds_row (row_app hp)) (k := 0) (by omega) (by omega) (gS hm rfl)) ?_
  refine pe_go (pc := 14) rfl (s_dup rfl) ?_
  refine pe_go (pc := 15) rfl (s_iconst (z := 1) rfl) ?_
  refine pe_go (pc := 16) rfl (s_aload_n rfl) ?_
  refine pe_go (pc := 17) rfl (s_aast (n := 3) (w' := w ++ [.inl (4, 3, rfs (fun _ => none)), .inl (3, 3, rfs (va_up (va_up (fun _ => none) 0 (some p)) 1 (some q)))]) (gA hm rfl) (holds_row (row_app hq)) (k := 1) (by omega) (by omega) (gS hm rfl)) ?_
  refine pe_go (pc := 18) rfl (s_dup rfl) ?_
  refine pe_go (pc := 19) rfl (s_iconst (z := 2) rfl) ?_
  refine pe_go (pc := 20) rfl (s_aload_n rfl) ?_
  refine pe_go (pc := 21) rfl (s_aast (n := 3) (w' := w ++ [.inl (4, 3, rfs (fun _ => none)), .inl (3, 3, rfs (va_up (va_up (va_up (fun _ => none) 0 (some p)) 1 (some q)) 2 (some r)))]) (gA hm rfl) (holds_row (row_app hr)) (k := 2) (by omega) (by omega) (gS hm rfl)) ?_
  refine pe_go (pc := 22) rfl (s_astore (lv' := [(5, .ref (m + 1)), (4, .ref m), (0, .ref p), (1, .ref q), (2, .ref r), (3, .ref c)]) rfl) ?_
  refine pe_go (pc := 24) rfl (s_iconst (z := 0) rfl) ?_
  refine pe_go (pc := 25) rfl (s_istore (lv' := [(6, .int (iI 0)), (5, .ref (m + 1)), (4, .ref m), (0, .ref p), (1, .ref q), (2, .ref r), (3, .ref c)]) rfl) ?_
  refine pe_go (pc := 27) rfl (s_iload rfl) ?_
  refine pe_go (pc := 29) rfl (s_iconst (z := 3) rfl) ?_
  refine pe_go rfl (s_icmp_ge_f ⟨by decide, by decide⟩ ⟨by decide, by decide⟩ (by decide)) ?_
  refine pe_go (pc := 33) rfl (s_aload rfl) ?_
  refine pe_go (pc := 35) rfl (s_iload rfl) ?_
  refine pe_go (pc := 37) rfl (s_aald (n := 3) (kd := 0) (gA hm rfl) (k := 0) (by omega) (by omega) rfl) ?_
  refine pe_go (pc := 38) rfl (s_iconst (z := 0) rfl) ?_
  refine pe_go (pc := 39) rfl (s_iald (n := 3) (f := row3 px py pz) (v := px) (row_app hp) (k := 0) (by omega) (by omega) (by decide) rfl) ?_
  refine pe_go (pc := 40) rfl (s_aload_n rfl) ?_
  refine pe_go (pc := 41) rfl (s_iconst (z := 0) rfl) ?_
  refine pe_go (pc := 42) rfl (s_iald (n := 3) (f := row3 cx cy cz) (v := cx) (row_app hc) (k := 0) (by omega) (by omega) (by decide) rfl) ?_
  refine pe_go (pc := 43) rfl s_isub ?_
  refine pe_go (pc := 44) rfl (s_i2l ⟨by omega, by omega⟩) ?_
  refine pe_go (pc := 45) rfl (s_lstore (lv' := [(7, .long (lI (px - cx))), (6, .int (iI 0)), (5, .ref (m + 1)), (4, .ref m), (0, .ref p), (1, .ref q), (2, .ref r), (3, .ref c)]) rfl) ?_
  refine pe_go (pc := 47) rfl (s_aload rfl) ?_
  refine pe_go (pc := 49) rfl (s_iload rfl) ?_
  refine pe_go (pc := 51) rfl (s_aald (n := 3) (kd := 0) (gA hm rfl) (k := 0) (by omega) (by omega) rfl) ?_
  refine pe_go (pc := 52) rfl (s_iconst (z := 1) rfl) ?_
  refine pe_go (pc := 53) rfl (s_iald (n := 3) (f := row3 px py pz) (v := py) (row_app hp) (k := 1) (by omega) (by omega) (by decide) rfl) ?_
  refine pe_go (pc := 54) rfl (s_aload_n rfl) ?_
  refine pe_go (pc := 55) rfl (s_iconst (z := 1) rfl) ?_
  refine pe_go (pc := 56) rfl (s_iald (n := 3) (f := row3 cx cy cz) (v := cy) (row_app hc) (k := 1) (by omega) (by omega) (by decide) rfl) ?_
  refine pe_go (pc := 57) rfl s_isub ?_
  refine pe_go (pc := 58) rfl (s_i2l ⟨by omega, by omega⟩) ?_
  refine pe_go (pc := 59) rfl (s_lstore (lv' := [(9, .long (lI (py - cy))), (7, .long (lI (px - cx))), (6, .int (iI 0)), (5, .ref (m + 1)), (4, .ref m), (0, .ref p), (1, .ref q), (2, .ref r), (3, .ref c)]) rfl) ?_
  refine pe_go (pc := 61) rfl (s_aload rfl) ?_
  refine pe_go (pc := 63) rfl (s_iload rfl) ?_
  refine pe_go (pc := 65) rfl (s_iconst (z := 3) rfl) ?_
  refine pe_go (pc := 66) rfl (s_newLP (l' := [.inl (4, 3, rfs (fun _ => none)), .inl (3, 3, rfs (va_up (va_up (va_up (fun _ => none) 0 (some p)) 1 (some q)) 2 (some r))), .inl (1, 3, .inr (.inl (fun _ => 0)))]) hm rfl rfl (by decide) rfl) ?_
  refine pe_go (pc := 68) rfl (s_dup rfl) ?_
  refine pe_go (pc := 69) rfl (s_iconst (z := 0) rfl) ?_
  refine pe_go (pc := 70) rfl (s_lload rfl) ?_
  refine pe_go (pc := 72) rfl (s_last (n := 3) (f := fun _ => 0) (w' := w ++ [.inl (4, 3, rfs (fun _ => none)), .inl (3, 3, rfs (va_up (va_up (va_up (fun _ => none) 0 (some p)) 1 (some q)) 2 (some r))), .inl (1, 3, .inr (.inl (vp_updL (fun _ => 0) 0 (lI (px - cx)))))]) (gA hm rfl) (k := 0) (by omega) (by omega) (by decide) (gS hm rfl)) ?_
  refine pe_go (pc := 73) rfl (s_dup rfl) ?_
  refine pe_go (pc := 74) rfl (s_iconst (z := 1) rfl) ?_
  refine pe_go (pc := 75) rfl (s_lload rfl) ?_
  refine pe_go (pc := 77) rfl (s_last (n := 3) (f := vp_updL (fun _ => 0) 0 (lI (px - cx))) (w' := w ++ [.inl (4, 3, rfs (fun _ => none)), .inl (3, 3, rfs (va_up (va_up (va_up (fun _ => none) 0 (some p)) 1 (some q)) 2 (some r))), .inl (1, 3, .inr (.inl (vp_updL (vp_updL (fun _ => 0) 0 (lI (px - cx))) 1 (lI (py - cy)))))]) (gA hm rfl) (k := 1) (by omega) (by omega) (by decide) (gS hm rfl)) ?_
  refine pe_go (pc := 78) rfl (s_dup rfl) ?_
  refine pe_go (pc := 79) rfl (s_iconst (z := 2) rfl) ?_
  refine pe_go (pc := 80) rfl (s_lload rfl) ?_
  refine pe_go (pc := 82) rfl (s_lload rfl) ?_
  refine pe_go (pc := 84) rfl s_lmul ?_
  refine pe_go (pc := 85) rfl (s_lload rfl) ?_
  refine pe_go (pc := 87) rfl (s_lload rfl) ?_
  refine pe_go (pc := 89) rfl s_lmul ?_
  refine pe_go (pc := 90) rfl s_ladd ?_
  refine pe_go (pc := 91) rfl (s_last (n := 3) (f := vp_updL (vp_updL (fun _ => 0) 0 (lI (px - cx))) 1 (lI (py - cy))) (w' := w ++ [.inl (4, 3, rfs (fun _ => none)), .inl (3, 3, rfs (va_up (va_up (va_up (fun _ => none) 0 (some p)) 1 (some q)) 2 (some r))), .inl (1, 3, .inr (.inl (vp_updL (vp_updL (vp_updL (fun _ => 0) 0 (lI (px - cx))) 1 (lI (py - cy))) 2 (lI (((px - cx) * (px - cx)) + ((py - cy) * (py - cy)))))))]) (gA hm rfl) (k := 2) (by omega) (by omega) (by decide) (gS hm rfl)) ?_
  refine pe_go (pc := 92) rfl (s_aast (n := 3) (w' := w ++ [.inl (4, 3, rfs (va_up (fun _ => none) 0 (some (m + 2)))), .inl (3, 3, rfs (va_up (va_up (va_up (fun _ => none) 0 (some p)) 1 (some q)) 2 (some r))), .inl (1, 3, .inr (.inl (vp_updL (vp_updL (vp_updL (fun _ => 0) 0 (lI (px - cx))) 1 (lI (py - cy))) 2 (lI (((px - cx) * (px - cx)) + ((py - cy) * (py - cy)))))))]) (gA0 hm rfl) (holds_l (gA hm rfl)) (k := 0) (by omega) (by omega) (gS0 hm rfl)) ?_
  refine pe_go (pc := 93) rfl (s_iinc (x := 0) (y := 1) rfl (by omega) (lv' := [(6, .int (iI 1)), (9, .long (lI (py - cy))), (7, .long (lI (px - cx))), (5, .ref (m + 1)), (4, .ref m), (0, .ref p), (1, .ref q), (2, .ref r), (3, .ref c)]) rfl) ?_
  refine pe_go (pc := 96) rfl s_goto ?_
  refine pe_go (pc := 27) rfl (s_iload rfl) ?_
  refine pe_go (pc := 29) rfl (s_iconst (z := 3) rfl) ?_
  refine pe_go rfl (s_icmp_ge_f ⟨by decide, by decide⟩ ⟨by decide, by decide⟩ (by decide)) ?_
  refine pe_go (pc := 33) rfl (s_aload rfl) ?_
  refine pe_go (pc := 35) rfl (s_iload rfl) ?_
  refine pe_go (pc := 37) rfl (s_aald (n := 3) (kd := 0) (gA hm rfl) (k := 1) (by omega) (by omega) rfl) ?_
  refine pe_go (pc := 38) rfl (s_iconst (z := 0) rfl) ?_
  refine pe_go (pc := 39) rfl (s_iald (n := 3) (f := row3 qx qy qz) (v := qx) (row_app hq) (k := 0) (by omega) (by omega) (by decide) rfl) ?_
  refine pe_go (pc := 40) rfl (s_aload_n rfl) ?_
  refine pe_go (pc := 41) rfl (s_iconst (z := 0) rfl) ?_
  refine pe_go (pc := 42) rfl (s_iald (n := 3) (f := row3 cx cy cz) (v := cx) (row_app hc) (k := 0) (by omega) (by omega) (by decide) rfl) ?_
  refine pe_go (pc := 43) rfl s_isub ?_
  refine pe_go (pc := 44) rfl (s_i2l ⟨by omega, by omega⟩) ?_
  refine pe_go (pc := 45) rfl (s_lstore (lv' := [(7, .long (lI (qx - cx))), (6, .int (iI 1)), (9, .long (lI (py - cy))), (5, .ref (m + 1)), (4, .ref m), (0, .ref p), (1, .ref q), (2, .ref r), (3, .ref c)]) rfl) ?_
  refine pe_go (pc := 47) rfl (s_aload rfl) ?_
  refine pe_go (pc := 49) rfl (s_iload rfl) ?_
  refine pe_go (pc := 51) rfl (s_aald (n := 3) (kd := 0) (gA hm rfl) (k := 1) (by omega) (by omega) rfl) ?_
  refine pe_go (pc := 52) rfl (s_iconst (z := 1) rfl) ?_
  refine pe_go (pc := 53) rfl (s_iald (n := 3) (f := row3 qx qy qz) (v := qy) (row_app hq) (k := 1) (by omega) (by omega) (by decide) rfl) ?_
  refine pe_go (pc := 54) rfl (s_aload_n rfl) ?_
  refine pe_go (pc := 55) rfl (s_iconst (z := 1) rfl) ?_
  refine pe_go (pc := 56) rfl (s_iald (n := 3) (f := row3 cx cy cz) (v := cy) (row_app hc) (k := 1) (by omega) (by omega) (by decide) rfl) ?_
  refine pe_go (pc := 57) rfl s_isub ?_
  refine pe_go (pc := 58) rfl (s_i2l ⟨by omega, by omega⟩) ?_
  refine pe_go (pc := 59) rfl (s_lstore (lv' := [(9, .long (lI (qy - cy))), (7, .long (lI (qx - cx))), (6, .int (iI 1)), (5, .ref (m + 1)), (4, .ref m), (0, .ref p), (1, .ref q), (2, .ref r), (3, .ref c)]) rfl) ?_
  refine pe_go (pc := 61) rfl (s_aload rfl) ?_
  refine pe_go (pc := 63) rfl (s_iload rfl) ?_
  refine pe_go (pc := 65) rfl (s_iconst (z := 3) rfl) ?_
  refine pe_go (pc := 66) rfl (s_newLP (l' := [.inl (4, 3, rfs (va_up (fun _ => none) 0 (some (m + 2)))), .inl (3, 3, rfs (va_up (va_up (va_up (fun _ => none) 0 (some p)) 1 (some q)) 2 (some r))), .inl (1, 3, .inr (.inl (vp_updL (vp_updL (vp_updL (fun _ => 0) 0 (lI (px - cx))) 1 (lI (py - cy))) 2 (lI (((px - cx) * (px - cx)) + ((py - cy) * (py - cy))))))), .inl (1, 3, .inr (.inl (fun _ => 0)))]) hm rfl rfl (by decide) rfl) ?_
  refine pe_go (pc := 68) rfl (s_dup rfl) ?_
  refine pe_go (pc := 69) rfl (s_iconst (z := 0) rfl) ?_
  refine pe_go (pc := 70) rfl (s_lload rfl) ?_
  refine pe_go (pc := 72) rfl (s_last (n := 3) (f := fun _ => 0) (w' := w ++ [.inl (4, 3, rfs (va_up (fun _ => none) 0 (some (m + 2)))), .inl (3, 3, rfs (va_up (va_up (va_up (fun _ => none) 0 (some p)) 1 (some q)) 2 (some r))), .inl (1, 3, .inr (.inl (vp_updL (vp_updL (vp_updL (fun _ => 0) 0 (lI (px - cx))) 1 (lI (py - cy))) 2 (lI (((px - cx) * (px - cx)) + ((py - cy) * (py - cy))))))), .inl (1, 3, .inr (.inl (vp_updL (fun _ => 0) 0 (lI (qx - cx)))))]) (gA hm rfl) (k := 0) (by omega) (by omega) (by decide) (gS hm rfl)) ?_
  refine pe_go (pc := 73) rfl (s_dup rfl) ?_
  refine pe_go (pc := 74) rfl (s_iconst (z := 1) rfl) ?_
  refine pe_go (pc := 75) rfl (s_lload rfl) ?_
  refine pe_go (pc := 77) rfl (s_last (n := 3) (f := vp_updL (fun _ => 0) 0 (lI (qx - cx))) (w' := w ++ [.inl (4, 3, rfs (va_up (fun _ => none) 0 (some (m + 2)))), .inl (3, 3, rfs (va_up (va_up (va_up (fun _ => none) 0 (some p)) 1 (some q)) 2 (some r))), .inl (1, 3, .inr (.inl (vp_updL (vp_updL (vp_updL (fun _ => 0) 0 (lI (px - cx))) 1 (lI (py - cy))) 2 (lI (((px - cx) * (px - cx)) + ((py - cy) * (py - cy))))))), .inl (1, 3, .inr (.inl (vp_updL (vp_updL (fun _ => 0) 0 (lI (qx - cx))) 1 (lI (qy - cy)))))]) (gA hm rfl) (k := 1) (by omega) (by omega) (by decide) (gS hm rfl)) ?_
  refine pe_go (pc := 78) rfl (s_dup rfl) ?_
  refine pe_go (pc := 79) rfl (s_iconst (z := 2) rfl) ?_
  refine pe_go (pc := 80) rfl (s_lload rfl) ?_
  refine pe_go (pc := 82) rfl (s_lload rfl) ?_
  refine pe_go (pc := 84) rfl s_lmul ?_
  refine pe_go (pc := 85) rfl (s_lload rfl) ?_
  refine pe_go (pc := 87) rfl (s_lload rfl) ?_
  refine pe_go (pc := 89) rfl s_lmul ?_
  refine pe_go (pc := 90) rfl s_ladd ?_
  refine pe_go (pc := 91) rfl (s_last (n := 3) (f := vp_updL (vp_updL (fun _ => 0) 0 (lI (qx - cx))) 1 (lI (qy - cy))) (w' := w ++ [.inl (4, 3, rfs (va_up (fun _ => none) 0 (some (m + 2)))), .inl (3, 3, rfs (va_up (va_up (va_up (fun _ => none) 0 (some p)) 1 (some q)) 2 (some r))), .inl (1, 3, .inr (.inl (vp_updL (vp_updL (vp_updL (fun _ => 0) 0 (lI (px - cx))) 1 (lI (py - cy))) 2 (lI (((px - cx) * (px - cx)) + ((py - cy) * (py - cy))))))), .inl (1, 3, .inr (.inl (vp_updL (vp_updL (vp_updL (fun _ => 0) 0 (lI (qx - cx))) 1 (lI (qy - cy))) 2 (lI (((qx - cx) * (qx - cx)) + ((qy - cy) * (qy - cy)))))))]) (gA hm rfl) (k := 2) (by omega) (by omega) (by decide) (gS hm rfl)) ?_
  refine pe_go (pc := 92) rfl (s_aast (n := 3) (w' := w ++ [.inl (4, 3, rfs (va_up (va_up (fun _ => none) 0 (some (m + 2))) 1 (some (m + 3)))), .inl (3, 3, rfs (va_up (va_up (va_up (fun _ => none) 0 (some p)) 1 (some q)) 2 (some r))), .inl (1, 3, .inr (.inl (vp_updL (vp_updL (vp_updL (fun _ => 0) 0 (lI (px - cx))) 1 (lI (py - cy))) 2 (lI (((px - cx) * (px - cx)) + ((py - cy) * (py - cy))))))), .inl (1, 3, .inr (.inl (vp_updL (vp_updL (vp_updL (fun _ => 0) 0 (lI (qx - cx))) 1 (lI (qy - cy))) 2 (lI (((qx - cx) * (qx - cx)) + ((qy - cy) * (qy - cy)))))))]) (gA0 hm rfl) (holds_l (gA hm rfl)) (k := 1) (by omega) (by omega) (gS0 hm rfl)) ?_
  refine pe_go (pc := 93) rfl (s_iinc (x := 1) (y := 2) rfl (by omega) (lv' := [(6, .int (iI 2)), (9, .long (lI (qy - cy))), (7, .long (lI (qx - cx))), (5, .ref (m + 1)), (4, .ref m), (0, .ref p), (1, .ref q), (2, .ref r), (3, .ref c)]) rfl) ?_
  refine pe_go (pc := 96) rfl s_goto ?_
  refine pe_go (pc := 27) rfl (s_iload rfl) ?_
  refine pe_go (pc := 29) rfl (s_iconst (z := 3) rfl) ?_
  refine pe_go rfl (s_icmp_ge_f ⟨by decide, by decide⟩ ⟨by decide, by decide⟩ (by decide)) ?_
  refine pe_go (pc := 33) rfl (s_aload rfl) ?_
  refine pe_go (pc := 35) rfl (s_iload rfl) ?_
  refine pe_go (pc := 37) rfl (s_aald (n := 3) (kd := 0) (gA hm rfl) (k := 2) (by omega) (by omega) rfl) ?_
  refine pe_go (pc := 38) rfl (s_iconst (z := 0) rfl) ?_
  refine pe_go (pc := 39) rfl (s_iald (n := 3) (f := row3 rx ry rz) (v := rx) (row_app hr) (k := 0) (by omega) (by omega) (by decide) rfl) ?_
  refine pe_go (pc := 40) rfl (s_aload_n rfl) ?_
  refine pe_go (pc := 41) rfl (s_iconst (z := 0) rfl) ?_
  refine pe_go (pc := 42) rfl (s_iald (n := 3) (f := row3 cx cy cz) (v := cx) (row_app hc) (k := 0) (by omega) (by omega) (by decide) rfl) ?_
  refine pe_go (pc := 43) rfl s_isub ?_
  refine pe_go (pc := 44) rfl (s_i2l ⟨by omega, by omega⟩) ?_
  refine pe_go (pc := 45) rfl (s_lstore (lv' := [(7, .long (lI (rx - cx))), (6, .int (iI 2)), (9, .long (lI (qy - cy))), (5, .ref (m + 1)), (4, .ref m), (0, .ref p), (1, .ref q), (2, .ref r), (3, .ref c)]) rfl) ?_
  refine pe_go (pc := 47) rfl (s_aload rfl) ?_
  refine pe_go (pc := 49) rfl (s_iload rfl) ?_
  refine pe_go (pc := 51) rfl (s_aald (n := 3) (kd := 0) (gA hm rfl) (k := 2) (by omega) (by omega) rfl) ?_
  refine pe_go (pc := 52) rfl (s_iconst (z := 1) rfl) ?_
  refine pe_go (pc := 53) rfl (s_iald (n := 3) (f := row3 rx ry rz) (v := ry) (row_app hr) (k := 1) (by omega) (by omega) (by decide) rfl) ?_
  refine pe_go (pc := 54) rfl (s_aload_n rfl) ?_
  refine pe_go (pc := 55) rfl (s_iconst (z := 1) rfl) ?_
  refine pe_go (pc := 56) rfl (s_iald (n := 3) (f := row3 cx cy cz) (v := cy) (row_app hc) (k := 1) (by omega) (by omega) (by decide) rfl) ?_
  refine pe_go (pc := 57) rfl s_isub ?_
  refine pe_go (pc := 58) rfl (s_i2l ⟨by omega, by omega⟩) ?_
  refine pe_go (pc := 59) rfl (s_lstore (lv' := [(9, .long (lI (ry - cy))), (7, .long (lI (rx - cx))), (6, .int (iI 2)), (5, .ref (m + 1)), (4, .ref m), (0, .ref p), (1, .ref q), (2, .ref r), (3, .ref c)]) rfl) ?_
  refine pe_go (pc := 61) rfl (s_aload rfl) ?_
  refine pe_go (pc := 63) rfl (s_iload rfl) ?_
  refine pe_go (pc := 65) rfl (s_iconst (z := 3) rfl) ?_
  refine pe_go (pc := 66) rfl (s_newLP (l' := [.inl (4, 3, rfs (va_up (va_up (fun _ => none) 0 (some (m + 2))) 1 (some (m + 3)))), .inl (3, 3, rfs (va_up (va_up (va_up (fun _ => none) 0 (some p)) 1 (some q)) 2 (some r))), .inl (1, 3, .inr (.inl (vp_updL (vp_updL (vp_updL (fun _ => 0) 0 (lI (px - cx))) 1 (lI (py - cy))) 2 (lI (((px - cx) * (px - cx)) + ((py - cy) * (py - cy))))))), .inl (1, 3, .inr (.inl (vp_updL (vp_updL (vp_updL (fun _ => 0) 0 (lI (qx - cx))) 1 (lI (qy - cy))) 2 (lI (((qx - cx) * (qx - cx)) + ((qy - cy) * (qy - cy))))))), .inl (1, 3, .inr (.inl (fun _ => 0)))]) hm rfl rfl (by decide) rfl) ?_
  refine pe_go (pc := 68) rfl (s_dup rfl) ?_
  refine pe_go (pc := 69) rfl (s_iconst (z := 0) rfl) ?_
  refine pe_go (pc := 70) rfl (s_lload rfl) ?_
  refine pe_go (pc := 72) rfl (s_last (n := 3) (f := fun _ => 0) (w' := w ++ [.inl (4, 3, rfs (va_up (va_up (fun _ => none) 0 (some (m + 2))) 1 (some (m + 3)))), .inl (3, 3, rfs (va_up (va_up (va_up (fun _ => none) 0 (some p)) 1 (some q)) 2 (some r))), .inl (1, 3, .inr (.inl (vp_updL (vp_updL (vp_updL (fun _ => 0) 0 (lI (px - cx))) 1 (lI (py - cy))) 2 (lI (((px - cx) * (px - cx)) + ((py - cy) * (py - cy))))))), .inl (1, 3, .inr (.inl (vp_updL (vp_updL (vp_updL (fun _ => 0) 0 (lI (qx - cx))) 1 (lI (qy - cy))) 2 (lI (((qx - cx) * (qx - cx)) + ((qy - cy) * (qy - cy))))))), .inl (1, 3, .inr (.inl (vp_updL (fun _ => 0) 0 (lI (rx - cx)))))]) (gA hm rfl) (k := 0) (by omega) (by omega) (by decide) (gS hm rfl)) ?_
  refine pe_go (pc := 73) rfl (s_dup rfl) ?_
  refine pe_go (pc := 74) rfl (s_iconst (z := 1) rfl) ?_
  refine pe_go (pc := 75) rfl (s_lload rfl) ?_
  refine pe_go (pc := 77) rfl (s_last (n := 3) (f := vp_updL (fun _ => 0) 0 (lI (rx - cx))) (w' := w ++ [.inl (4, 3, rfs (va_up (va_up (fun _ => none) 0 (some (m + 2))) 1 (some (m + 3)))), .inl (3, 3, rfs (va_up (va_up (va_up (fun _ => none) 0 (some p)) 1 (some q)) 2 (some r))), .inl (1, 3, .inr (.inl (vp_updL (vp_updL (vp_updL (fun _ => 0) 0 (lI (px - cx))) 1 (lI (py - cy))) 2 (lI (((px - cx) * (px - cx)) + ((py - cy) * (py - cy))))))), .inl (1, 3, .inr (.inl (vp_updL (vp_updL (vp_updL (fun _ => 0) 0 (lI (qx - cx))) 1 (lI (qy - cy))) 2 (lI (((qx - cx) * (qx - cx)) + ((qy - cy) * (qy - cy))))))), .inl (1, 3, .inr (.inl (vp_updL (vp_updL (fun _ => 0) 0 (lI (rx - cx))) 1 (lI (ry - cy)))))]) (gA hm rfl) (k := 1) (by omega) (by omega) (by decide) (gS hm rfl)) ?_
  refine pe_go (pc := 78) rfl (s_dup rfl) ?_
  refine pe_go (pc := 79) rfl (s_iconst (z := 2) rfl) ?_
  refine pe_go (pc := 80) rfl (s_lload rfl) ?_
  refine pe_go (pc := 82) rfl (s_lload rfl) ?_
  refine pe_go (pc := 84) rfl s_lmul ?_
  refine pe_go (pc := 85) rfl (s_lload rfl) ?_
  refine pe_go (pc := 87) rfl (s_lload rfl) ?_
  refine pe_go (pc := 89) rfl s_lmul ?_
  refine pe_go (pc := 90) rfl s_ladd ?_
  refine pe_go (pc := 91) rfl (s_last (n := 3) (f := vp_updL (vp_updL (fun _ => 0) 0 (lI (rx - cx))) 1 (lI (ry - cy))) (w' := w ++ [.inl (4, 3, rfs (va_up (va_up (fun _ => none) 0 (some (m + 2))) 1 (some (m + 3)))), .inl (3, 3, rfs (va_up (va_up (va_up (fun _ => none) 0 (some p)) 1 (some q)) 2 (some r))), .inl (1, 3, .inr (.inl (vp_updL (vp_updL (vp_updL (fun _ => 0) 0 (lI (px - cx))) 1 (lI (py - cy))) 2 (lI (((px - cx) * (px - cx)) + ((py - cy) * (py - cy))))))), .inl (1, 3, .inr (.inl (vp_updL (vp_updL (vp_updL (fun _ => 0) 0 (lI (qx - cx))) 1 (lI (qy - cy))) 2 (lI (((qx - cx) * (qx - cx)) + ((qy - cy) * (qy - cy))))))), .inl (1, 3, .inr (.inl (vp_updL (vp_updL (vp_updL (fun _ => 0) 0 (lI (rx - cx))) 1 (lI (ry - cy))) 2 (lI (((rx - cx) * (rx - cx)) + ((ry - cy) * (ry - cy)))))))]) (gA hm rfl) (k := 2) (by omega) (by omega) (by decide) (gS hm rfl)) ?_
  refine pe_go (pc := 92) rfl (s_aast (n := 3) (w' := w ++ [.inl (4, 3, rfs (va_up (va_up (va_up (fun _ => none) 0 (some (m + 2))) 1 (some (m + 3))) 2 (some (m + 4)))), .inl (3, 3, rfs (va_up (va_up (va_up (fun _ => none) 0 (some p)) 1 (some q)) 2 (some r))), .inl (1, 3, .inr (.inl (vp_updL (vp_updL (vp_updL (fun _ => 0) 0 (lI (px - cx))) 1 (lI (py - cy))) 2 (lI (((px - cx) * (px - cx)) + ((py - cy) * (py - cy))))))), .inl (1, 3, .inr (.inl (vp_updL (vp_updL (vp_updL (fun _ => 0) 0 (lI (qx - cx))) 1 (lI (qy - cy))) 2 (lI (((qx - cx) * (qx - cx)) + ((qy - cy) * (qy - cy))))))), .inl (1, 3, .inr (.inl (vp_updL (vp_updL (vp_updL (fun _ => 0) 0 (lI (rx - cx))) 1 (lI (ry - cy))) 2 (lI (((rx - cx) * (rx - cx)) + ((ry - cy) * (ry - cy)))))))]) (gA0 hm rfl) (holds_l (gA hm rfl)) (k := 2) (by omega) (by omega) (gS0 hm rfl)) ?_
  refine pe_go (pc := 93) rfl (s_iinc (x := 2) (y := 3) rfl (by omega) (lv' := [(6, .int (iI 3)), (9, .long (lI (ry - cy))), (7, .long (lI (rx - cx))), (5, .ref (m + 1)), (4, .ref m), (0, .ref p), (1, .ref q), (2, .ref r), (3, .ref c)]) rfl) ?_
  refine pe_go (pc := 96) rfl s_goto ?_
  refine pe_go (pc := 27) rfl (s_iload rfl) ?_
  refine pe_go (pc := 29) rfl (s_iconst (z := 3) rfl) ?_
  refine pe_go rfl (s_icmp_ge_t ⟨by decide, by decide⟩ ⟨by decide, by decide⟩ (by decide)) ?_
  refine pe_go (pc := 99) rfl s_lconst0 ?_
  refine pe_go (pc := 100) rfl (s_lstore (lv' := [(6, .long (lI 0)), (9, .long (lI (ry - cy))), (5, .ref (m + 1)), (4, .ref m), (0, .ref p), (1, .ref q), (2, .ref r), (3, .ref c)]) rfl) ?_
  refine pe_go (pc := 102) rfl (s_iconst (z := 0) rfl) ?_
  refine pe_go (pc := 103) rfl (s_istore (lv' := [(8, .int (iI 0)), (6, .long (lI 0)), (9, .long (lI (ry - cy))), (5, .ref (m + 1)), (4, .ref m), (0, .ref p), (1, .ref q), (2, .ref r), (3, .ref c)]) rfl) ?_
  refine pe_go (pc := 105) rfl (s_iload rfl) ?_
  refine pe_go (pc := 107) rfl (s_iconst (z := 3) rfl) ?_
  refine pe_go rfl (s_icmp_ge_f ⟨by decide, by decide⟩ ⟨by decide, by decide⟩ (by decide)) ?_
  refine pe_go (pc := 111) rfl (s_lload rfl) ?_
  refine pe_go (pc := 113) rfl (s_aload rfl) ?_
  refine pe_go (pc := 115) rfl (s_iload rfl) ?_
  refine pe_go (pc := 117) rfl (s_aald (n := 3) (kd := 1) (gA0 hm rfl) (k := 0) (by omega) (by omega) rfl) ?_
  refine pe_go (pc := 118) rfl (s_iconst (z := 2) rfl) ?_
  refine pe_go (pc := 119) rfl (s_lald (n := 3) (f := vp_updL (vp_updL (vp_updL (fun _ => 0) 0 (lI (px - cx))) 1 (lI (py - cy))) 2 (lI (((px - cx) * (px - cx)) + ((py - cy) * (py - cy))))) (v := lI (((px - cx) * (px - cx)) + ((py - cy) * (py - cy)))) (gA hm rfl) (k := 2) (by omega) (by omega) (by decide) rfl) ?_
  refine pe_go (pc := 120) rfl (s_aload rfl) ?_
  refine pe_go (pc := 122) rfl (s_iload rfl) ?_
  refine pe_go (pc := 124) rfl (s_iconst (z := 1) rfl) ?_
  refine pe_go (q := (126, [(8, .int (iI 0)), (6, .long (lI 0)), (9, .long (lI (ry - cy))), (5, .ref (m + 1)), (4, .ref m), (0, .ref p), (1, .ref q), (2, .ref r), (3, .ref c)], [.int (iI 1), .ref m, .long (lI (((px - cx) * (px - cx)) + ((py - cy) * (py - cy)))), .long (lI 0)], w ++ [.inl (4, 3, rfs (va_up (va_up (va_up (fun _ => none) 0 (some (m + 2))) 1 (some (m + 3))) 2 (some (m + 4)))), .inl (3, 3, rfs (va_up (va_up (va_up (fun _ => none) 0 (some p)) 1 (some q)) 2 (some r))), .inl (1, 3, .inr (.inl (vp_updL (vp_updL (vp_updL (fun _ => 0) 0 (lI (px - cx))) 1 (lI (py - cy))) 2 (lI (((px - cx) * (px - cx)) + ((py - cy) * (py - cy))))))), .inl (1, 3, .inr (.inl (vp_updL (vp_updL (vp_updL (fun _ => 0) 0 (lI (qx - cx))) 1 (lI (qy - cy))) 2 (lI (((qx - cx) * (qx - cx)) + ((qy - cy) * (qy - cy))))))), .inl (1, 3, .inr (.inl (vp_updL (vp_updL (vp_updL (fun _ => 0) 0 (lI (rx - cx))) 1 (lI (ry - cy))) 2 (lI (((rx - cx) * (rx - cx)) + ((ry - cy) * (ry - cy)))))))])) rfl s_iadd ?_
  refine pe_go (pc := 126) rfl (s_iconst (z := 3) rfl) ?_
  refine pe_go (pc := 127) rfl (s_irem ⟨by decide, by decide⟩ ⟨by decide, by decide⟩ (by decide) (by decide) (show Int.tmod 1 3 = 1 from by decide)) ?_
  refine pe_go (pc := 128) rfl (s_aald (n := 3) (kd := 1) (gA0 hm rfl) (k := 1) (by omega) (by omega) rfl) ?_
  refine pe_go (pc := 129) rfl (s_iconst (z := 0) rfl) ?_
  refine pe_go (pc := 130) rfl (s_lald (n := 3) (f := vp_updL (vp_updL (vp_updL (fun _ => 0) 0 (lI (qx - cx))) 1 (lI (qy - cy))) 2 (lI (((qx - cx) * (qx - cx)) + ((qy - cy) * (qy - cy))))) (v := lI (qx - cx)) (gA hm rfl) (k := 0) (by omega) (by omega) (by decide) rfl) ?_
  refine pe_go (pc := 131) rfl (s_aload rfl) ?_
  refine pe_go (pc := 133) rfl (s_iload rfl) ?_
  refine pe_go (pc := 135) rfl (s_iconst (z := 2) rfl) ?_
  refine pe_go (q := (137, [(8, .int (iI 0)), (6, .long (lI 0)), (9, .long (lI (ry - cy))), (5, .ref (m + 1)), (4, .ref m), (0, .ref p), (1, .ref q), (2, .ref r), (3, .ref c)], [.int (iI 2), .ref m, .long (lI (qx - cx)), .long (lI (((px - cx) * (px - cx)) + ((py - cy) * (py - cy)))), .long (lI 0)], w ++ [.inl (4, 3, rfs (va_up (va_up (va_up (fun _ => none) 0 (some (m + 2))) 1 (some (m + 3))) 2 (some (m + 4)))), .inl (3, 3, rfs (va_up (va_up (va_up (fun _ => none) 0 (some p)) 1 (some q)) 2 (some r))), .inl (1, 3, .inr (.inl (vp_updL (vp_updL (vp_updL (fun _ => 0) 0 (lI (px - cx))) 1 (lI (py - cy))) 2 (lI (((px - cx) * (px - cx)) + ((py - cy) * (py - cy))))))), .inl (1, 3, .inr (.inl (vp_updL (vp_updL (vp_updL (fun _ => 0) 0 (lI (qx - cx))) 1 (lI (qy - cy))) 2 (lI (((qx - cx) * (qx - cx)) + ((qy - cy) * (qy - cy))))))), .inl (1, 3, .inr (.inl (vp_updL (vp_updL (vp_updL (fun _ => 0) 0 (lI (rx - cx))) 1 (lI (ry - cy))) 2 (lI (((rx - cx) * (rx - cx)) + ((ry - cy) * (ry - cy)))))))])) rfl s_iadd ?_
  refine pe_go (pc := 137) rfl (s_iconst (z := 3) rfl) ?_
  refine pe_go (pc := 138) rfl (s_irem ⟨by decide, by decide⟩ ⟨by decide, by decide⟩ (by decide) (by decide) (show Int.tmod 2 3 = 2 from by decide)) ?_
  refine pe_go (pc := 139) rfl (s_aald (n := 3) (kd := 1) (gA0 hm rfl) (k := 2) (by omega) (by omega) rfl) ?_
  refine pe_go (pc := 140) rfl (s_iconst (z := 1) rfl) ?_
  refine pe_go (pc := 141) rfl (s_lald (n := 3) (f := vp_updL (vp_updL (vp_updL (fun _ => 0) 0 (lI (rx - cx))) 1 (lI (ry - cy))) 2 (lI (((rx - cx) * (rx - cx)) + ((ry - cy) * (ry - cy))))) (v := lI (ry - cy)) (gA hm rfl) (k := 1) (by omega) (by omega) (by decide) rfl) ?_
  refine pe_go (pc := 142) rfl s_lmul ?_
  refine pe_go (pc := 143) rfl (s_aload rfl) ?_
  refine pe_go (pc := 145) rfl (s_iload rfl) ?_
  refine pe_go (pc := 147) rfl (s_iconst (z := 1) rfl) ?_
  refine pe_go (q := (149, [(8, .int (iI 0)), (6, .long (lI 0)), (9, .long (lI (ry - cy))), (5, .ref (m + 1)), (4, .ref m), (0, .ref p), (1, .ref q), (2, .ref r), (3, .ref c)], [.int (iI 1), .ref m, .long (lI ((qx - cx) * (ry - cy))), .long (lI (((px - cx) * (px - cx)) + ((py - cy) * (py - cy)))), .long (lI 0)], w ++ [.inl (4, 3, rfs (va_up (va_up (va_up (fun _ => none) 0 (some (m + 2))) 1 (some (m + 3))) 2 (some (m + 4)))), .inl (3, 3, rfs (va_up (va_up (va_up (fun _ => none) 0 (some p)) 1 (some q)) 2 (some r))), .inl (1, 3, .inr (.inl (vp_updL (vp_updL (vp_updL (fun _ => 0) 0 (lI (px - cx))) 1 (lI (py - cy))) 2 (lI (((px - cx) * (px - cx)) + ((py - cy) * (py - cy))))))), .inl (1, 3, .inr (.inl (vp_updL (vp_updL (vp_updL (fun _ => 0) 0 (lI (qx - cx))) 1 (lI (qy - cy))) 2 (lI (((qx - cx) * (qx - cx)) + ((qy - cy) * (qy - cy))))))), .inl (1, 3, .inr (.inl (vp_updL (vp_updL (vp_updL (fun _ => 0) 0 (lI (rx - cx))) 1 (lI (ry - cy))) 2 (lI (((rx - cx) * (rx - cx)) + ((ry - cy) * (ry - cy)))))))])) rfl s_iadd ?_
  refine pe_go (pc := 149) rfl (s_iconst (z := 3) rfl) ?_
  refine pe_go (pc := 150) rfl (s_irem ⟨by decide, by decide⟩ ⟨by decide, by decide⟩ (by decide) (by decide) (show Int.tmod 1 3 = 1 from by decide)) ?_
  refine pe_go (pc := 151) rfl (s_aald (n := 3) (kd := 1) (gA0 hm rfl) (k := 1) (by omega) (by omega) rfl) ?_
  refine pe_go (pc := 152) rfl (s_iconst (z := 1) rfl) ?_
  refine pe_go (pc := 153) rfl (s_lald (n := 3) (f := vp_updL (vp_updL (vp_updL (fun _ => 0) 0 (lI (qx - cx))) 1 (lI (qy - cy))) 2 (lI (((qx - cx) * (qx - cx)) + ((qy - cy) * (qy - cy))))) (v := lI (qy - cy)) (gA hm rfl) (k := 1) (by omega) (by omega) (by decide) rfl) ?_
  refine pe_go (pc := 154) rfl (s_aload rfl) ?_
  refine pe_go (pc := 156) rfl (s_iload rfl) ?_
  refine pe_go (pc := 158) rfl (s_iconst (z := 2) rfl) ?_
  refine pe_go (q := (160, [(8, .int (iI 0)), (6, .long (lI 0)), (9, .long (lI (ry - cy))), (5, .ref (m + 1)), (4, .ref m), (0, .ref p), (1, .ref q), (2, .ref r), (3, .ref c)], [.int (iI 2), .ref m, .long (lI (qy - cy)), .long (lI ((qx - cx) * (ry - cy))), .long (lI (((px - cx) * (px - cx)) + ((py - cy) * (py - cy)))), .long (lI 0)], w ++ [.inl (4, 3, rfs (va_up (va_up (va_up (fun _ => none) 0 (some (m + 2))) 1 (some (m + 3))) 2 (some (m + 4)))), .inl (3, 3, rfs (va_up (va_up (va_up (fun _ => none) 0 (some p)) 1 (some q)) 2 (some r))), .inl (1, 3, .inr (.inl (vp_updL (vp_updL (vp_updL (fun _ => 0) 0 (lI (px - cx))) 1 (lI (py - cy))) 2 (lI (((px - cx) * (px - cx)) + ((py - cy) * (py - cy))))))), .inl (1, 3, .inr (.inl (vp_updL (vp_updL (vp_updL (fun _ => 0) 0 (lI (qx - cx))) 1 (lI (qy - cy))) 2 (lI (((qx - cx) * (qx - cx)) + ((qy - cy) * (qy - cy))))))), .inl (1, 3, .inr (.inl (vp_updL (vp_updL (vp_updL (fun _ => 0) 0 (lI (rx - cx))) 1 (lI (ry - cy))) 2 (lI (((rx - cx) * (rx - cx)) + ((ry - cy) * (ry - cy)))))))])) rfl s_iadd ?_
  refine pe_go (pc := 160) rfl (s_iconst (z := 3) rfl) ?_
  refine pe_go (pc := 161) rfl (s_irem ⟨by decide, by decide⟩ ⟨by decide, by decide⟩ (by decide) (by decide) (show Int.tmod 2 3 = 2 from by decide)) ?_
  refine pe_go (pc := 162) rfl (s_aald (n := 3) (kd := 1) (gA0 hm rfl) (k := 2) (by omega) (by omega) rfl) ?_
  refine pe_go (pc := 163) rfl (s_iconst (z := 0) rfl) ?_
  refine pe_go (pc := 164) rfl (s_lald (n := 3) (f := vp_updL (vp_updL (vp_updL (fun _ => 0) 0 (lI (rx - cx))) 1 (lI (ry - cy))) 2 (lI (((rx - cx) * (rx - cx)) + ((ry - cy) * (ry - cy))))) (v := lI (rx - cx)) (gA hm rfl) (k := 0) (by omega) (by omega) (by decide) rfl) ?_
  refine pe_go (pc := 165) rfl s_lmul ?_
  refine pe_go (pc := 166) rfl s_lsub ?_
  refine pe_go (pc := 167) rfl s_lmul ?_
  refine pe_go (pc := 168) rfl s_ladd ?_
  refine pe_go (pc := 169) rfl (s_lstore (lv' := [(6, .long (lI (0 + ((((px - cx) * (px - cx)) + ((py - cy) * (py - cy))) * (((qx - cx) * (ry - cy)) - ((qy - cy) * (rx - cx))))))), (8, .int (iI 0)), (9, .long (lI (ry - cy))), (5, .ref (m + 1)), (4, .ref m), (0, .ref p), (1, .ref q), (2, .ref r), (3, .ref c)]) rfl) ?_
  refine pe_go (pc := 171) rfl (s_iinc (x := 0) (y := 1) rfl (by omega) (lv' := [(8, .int (iI 1)), (6, .long (lI (0 + ((((px - cx) * (px - cx)) + ((py - cy) * (py - cy))) * (((qx - cx) * (ry - cy)) - ((qy - cy) * (rx - cx))))))), (9, .long (lI (ry - cy))), (5, .ref (m + 1)), (4, .ref m), (0, .ref p), (1, .ref q), (2, .ref r), (3, .ref c)]) rfl) ?_
  refine pe_go (pc := 174) rfl s_goto ?_
  refine pe_go (pc := 105) rfl (s_iload rfl) ?_
  refine pe_go (pc := 107) rfl (s_iconst (z := 3) rfl) ?_
  refine pe_go rfl (s_icmp_ge_f ⟨by decide, by decide⟩ ⟨by decide, by decide⟩ (by decide)) ?_
  refine pe_go (pc := 111) rfl (s_lload rfl) ?_
  refine pe_go (pc := 113) rfl (s_aload rfl) ?_
  refine pe_go (pc := 115) rfl (s_iload rfl) ?_
  refine pe_go (pc := 117) rfl (s_aald (n := 3) (kd := 1) (gA0 hm rfl) (k := 1) (by omega) (by omega) rfl) ?_
  refine pe_go (pc := 118) rfl (s_iconst (z := 2) rfl) ?_
  refine pe_go (pc := 119) rfl (s_lald (n := 3) (f := vp_updL (vp_updL (vp_updL (fun _ => 0) 0 (lI (qx - cx))) 1 (lI (qy - cy))) 2 (lI (((qx - cx) * (qx - cx)) + ((qy - cy) * (qy - cy))))) (v := lI (((qx - cx) * (qx - cx)) + ((qy - cy) * (qy - cy)))) (gA hm rfl) (k := 2) (by omega) (by omega) (by decide) rfl) ?_
  refine pe_go (pc := 120) rfl (s_aload rfl) ?_
  refine pe_go (pc := 122) rfl (s_iload rfl) ?_
  refine pe_go (pc := 124) rfl (s_iconst (z := 1) rfl) ?_
  refine pe_go (q := (126, [(8, .int (iI 1)), (6, .long (lI (0 + ((((px - cx) * (px - cx)) + ((py - cy) * (py - cy))) * (((qx - cx) * (ry - cy)) - ((qy - cy) * (rx - cx))))))), (9, .long (lI (ry - cy))), (5, .ref (m + 1)), (4, .ref m), (0, .ref p), (1, .ref q), (2, .ref r), (3, .ref c)], [.int (iI 2), .ref m, .long (lI (((qx - cx) * (qx - cx)) + ((qy - cy) * (qy - cy)))), .long (lI (0 + ((((px - cx) * (px - cx)) + ((py - cy) * (py - cy))) * (((qx - cx) * (ry - cy)) - ((qy - cy) * (rx - cx))))))], w ++ [.inl (4, 3, rfs (va_up (va_up (va_up (fun _ => none) 0 (some (m + 2))) 1 (some (m + 3))) 2 (some (m + 4)))), .inl (3, 3, rfs (va_up (va_up (va_up (fun _ => none) 0 (some p)) 1 (some q)) 2 (some r))), .inl (1, 3, .inr (.inl (vp_updL (vp_updL (vp_updL (fun _ => 0) 0 (lI (px - cx))) 1 (lI (py - cy))) 2 (lI (((px - cx) * (px - cx)) + ((py - cy) * (py - cy))))))), .inl (1, 3, .inr (.inl (vp_updL (vp_updL (vp_updL (fun _ => 0) 0 (lI (qx - cx))) 1 (lI (qy - cy))) 2 (lI (((qx - cx) * (qx - cx)) + ((qy - cy) * (qy - cy))))))), .inl (1, 3, .inr (.inl (vp_updL (vp_updL (vp_updL (fun _ => 0) 0 (lI (rx - cx))) 1 (lI (ry - cy))) 2 (lI (((rx - cx) * (rx - cx)) + ((ry - cy) * (ry - cy)))))))])) rfl s_iadd ?_
  refine pe_go (pc := 126) rfl (s_iconst (z := 3) rfl) ?_
  refine pe_go (pc := 127) rfl (s_irem ⟨by decide, by decide⟩ ⟨by decide, by decide⟩ (by decide) (by decide) (show Int.tmod 2 3 = 2 from by decide)) ?_
  refine pe_go (pc := 128) rfl (s_aald (n := 3) (kd := 1) (gA0 hm rfl) (k := 2) (by omega) (by omega) rfl) ?_
  refine pe_go (pc := 129) rfl (s_iconst (z := 0) rfl) ?_
  refine pe_go (pc := 130) rfl (s_lald (n := 3) (f := vp_updL (vp_updL (vp_updL (fun _ => 0) 0 (lI (rx - cx))) 1 (lI (ry - cy))) 2 (lI (((rx - cx) * (rx - cx)) + ((ry - cy) * (ry - cy))))) (v := lI (rx - cx)) (gA hm rfl) (k := 0) (by omega) (by omega) (by decide) rfl) ?_
  refine pe_go (pc := 131) rfl (s_aload rfl) ?_
  refine pe_go (pc := 133) rfl (s_iload rfl) ?_
  refine pe_go (pc := 135) rfl (s_iconst (z := 2) rfl) ?_
  refine pe_go (q := (137, [(8, .int (iI 1)), (6, .long (lI (0 + ((((px - cx) * (px - cx)) + ((py - cy) * (py - cy))) * (((qx - cx) * (ry - cy)) - ((qy - cy) * (rx - cx))))))), (9, .long (lI (ry - cy))), (5, .ref (m + 1)), (4, .ref m), (0, .ref p), (1, .ref q), (2, .ref r), (3, .ref c)], [.int (iI 3), .ref m, .long (lI (rx - cx)), .long (lI (((qx - cx) * (qx - cx)) + ((qy - cy) * (qy - cy)))), .long (lI (0 + ((((px - cx) * (px - cx)) + ((py - cy) * (py - cy))) * (((qx - cx) * (ry - cy)) - ((qy - cy) * (rx - cx))))))], w ++ [.inl (4, 3, rfs (va_up (va_up (va_up (fun _ => none) 0 (some (m + 2))) 1 (some (m + 3))) 2 (some (m + 4)))), .inl (3, 3, rfs (va_up (va_up (va_up (fun _ => none) 0 (some p)) 1 (some q)) 2 (some r))), .inl (1, 3, .inr (.inl (vp_updL (vp_updL (vp_updL (fun _ => 0) 0 (lI (px - cx))) 1 (lI (py - cy))) 2 (lI (((px - cx) * (px - cx)) + ((py - cy) * (py - cy))))))), .inl (1, 3, .inr (.inl (vp_updL (vp_updL (vp_updL (fun _ => 0) 0 (lI (qx - cx))) 1 (lI (qy - cy))) 2 (lI (((qx - cx) * (qx - cx)) + ((qy - cy) * (qy - cy))))))), .inl (1, 3, .inr (.inl (vp_updL (vp_updL (vp_updL (fun _ => 0) 0 (lI (rx - cx))) 1 (lI (ry - cy))) 2 (lI (((rx - cx) * (rx - cx)) + ((ry - cy) * (ry - cy)))))))])) rfl s_iadd ?_
  refine pe_go (pc := 137) rfl (s_iconst (z := 3) rfl) ?_
  refine pe_go (pc := 138) rfl (s_irem ⟨by decide, by decide⟩ ⟨by decide, by decide⟩ (by decide) (by decide) (show Int.tmod 3 3 = 0 from by decide)) ?_
  refine pe_go (pc := 139) rfl (s_aald (n := 3) (kd := 1) (gA0 hm rfl) (k := 0) (by omega) (by omega) rfl) ?_
  refine pe_go (pc := 140) rfl (s_iconst (z := 1) rfl) ?_
  refine pe_go (pc := 141) rfl (s_lald (n := 3) (f := vp_updL (vp_updL (vp_updL (fun _ => 0) 0 (lI (px - cx))) 1 (lI (py - cy))) 2 (lI (((px - cx) * (px - cx)) + ((py - cy) * (py - cy))))) (v := lI (py - cy)) (gA hm rfl) (k := 1) (by omega) (by omega) (by decide) rfl) ?_
  refine pe_go (pc := 142) rfl s_lmul ?_
  refine pe_go (pc := 143) rfl (s_aload rfl) ?_
  refine pe_go (pc := 145) rfl (s_iload rfl) ?_
  refine pe_go (pc := 147) rfl (s_iconst (z := 1) rfl) ?_
  refine pe_go (q := (149, [(8, .int (iI 1)), (6, .long (lI (0 + ((((px - cx) * (px - cx)) + ((py - cy) * (py - cy))) * (((qx - cx) * (ry - cy)) - ((qy - cy) * (rx - cx))))))), (9, .long (lI (ry - cy))), (5, .ref (m + 1)), (4, .ref m), (0, .ref p), (1, .ref q), (2, .ref r), (3, .ref c)], [.int (iI 2), .ref m, .long (lI ((rx - cx) * (py - cy))), .long (lI (((qx - cx) * (qx - cx)) + ((qy - cy) * (qy - cy)))), .long (lI (0 + ((((px - cx) * (px - cx)) + ((py - cy) * (py - cy))) * (((qx - cx) * (ry - cy)) - ((qy - cy) * (rx - cx))))))], w ++ [.inl (4, 3, rfs (va_up (va_up (va_up (fun _ => none) 0 (some (m + 2))) 1 (some (m + 3))) 2 (some (m + 4)))), .inl (3, 3, rfs (va_up (va_up (va_up (fun _ => none) 0 (some p)) 1 (some q)) 2 (some r))), .inl (1, 3, .inr (.inl (vp_updL (vp_updL (vp_updL (fun _ => 0) 0 (lI (px - cx))) 1 (lI (py - cy))) 2 (lI (((px - cx) * (px - cx)) + ((py - cy) * (py - cy))))))), .inl (1, 3, .inr (.inl (vp_updL (vp_updL (vp_updL (fun _ => 0) 0 (lI (qx - cx))) 1 (lI (qy - cy))) 2 (lI (((qx - cx) * (qx - cx)) + ((qy - cy) * (qy - cy))))))), .inl (1, 3, .inr (.inl (vp_updL (vp_updL (vp_updL (fun _ => 0) 0 (lI (rx - cx))) 1 (lI (ry - cy))) 2 (lI (((rx - cx) * (rx - cx)) + ((ry - cy) * (ry - cy)))))))])) rfl s_iadd ?_
  refine pe_go (pc := 149) rfl (s_iconst (z := 3) rfl) ?_
  refine pe_go (pc := 150) rfl (s_irem ⟨by decide, by decide⟩ ⟨by decide, by decide⟩ (by decide) (by decide) (show Int.tmod 2 3 = 2 from by decide)) ?_
  refine pe_go (pc := 151) rfl (s_aald (n := 3) (kd := 1) (gA0 hm rfl) (k := 2) (by omega) (by omega) rfl) ?_
  refine pe_go (pc := 152) rfl (s_iconst (z := 1) rfl) ?_
  refine pe_go (pc := 153) rfl (s_lald (n := 3) (f := vp_updL (vp_updL (vp_updL (fun _ => 0) 0 (lI (rx - cx))) 1 (lI (ry - cy))) 2 (lI (((rx - cx) * (rx - cx)) + ((ry - cy) * (ry - cy))))) (v := lI (ry - cy)) (gA hm rfl) (k := 1) (by omega) (by omega) (by decide) rfl) ?_
  refine pe_go (pc := 154) rfl (s_aload rfl) ?_
  refine pe_go (pc := 156) rfl (s_iload rfl) ?_
  refine pe_go (pc := 158) rfl (s_iconst (z := 2) rfl) ?_
  refine pe_go (q := (160, [(8, .int (iI 1)), (6, .long (lI (0 + ((((px - cx) * (px - cx)) + ((py - cy) * (py - cy))) * (((qx - cx) * (ry - cy)) - ((qy - cy) * (rx - cx))))))), (9, .long (lI (ry - cy))), (5, .ref (m + 1)), (4, .ref m), (0, .ref p), (1, .ref q), (2, .ref r), (3, .ref c)], [.int (iI 3), .ref m, .long (lI (ry - cy)), .long (lI ((rx - cx) * (py - cy))), .long (lI (((qx - cx) * (qx - cx)) + ((qy - cy) * (qy - cy)))), .long (lI (0 + ((((px - cx) * (px - cx)) + ((py - cy) * (py - cy))) * (((qx - cx) * (ry - cy)) - ((qy - cy) * (rx - cx))))))], w ++ [.inl (4, 3, rfs (va_up (va_up (va_up (fun _ => none) 0 (some (m + 2))) 1 (some (m + 3))) 2 (some (m + 4)))), .inl (3, 3, rfs (va_up (va_up (va_up (fun _ => none) 0 (some p)) 1 (some q)) 2 (some r))), .inl (1, 3, .inr (.inl (vp_updL (vp_updL (vp_updL (fun _ => 0) 0 (lI (px - cx))) 1 (lI (py - cy))) 2 (lI (((px - cx) * (px - cx)) + ((py - cy) * (py - cy))))))), .inl (1, 3, .inr (.inl (vp_updL (vp_updL (vp_updL (fun _ => 0) 0 (lI (qx - cx))) 1 (lI (qy - cy))) 2 (lI (((qx - cx) * (qx - cx)) + ((qy - cy) * (qy - cy))))))), .inl (1, 3, .inr (.inl (vp_updL (vp_updL (vp_updL (fun _ => 0) 0 (lI (rx - cx))) 1 (lI (ry - cy))) 2 (lI (((rx - cx) * (rx - cx)) + ((ry - cy) * (ry - cy)))))))])) rfl s_iadd ?_
  refine pe_go (pc := 160) rfl (s_iconst (z := 3) rfl) ?_
  refine pe_go (pc := 161) rfl (s_irem ⟨by decide, by decide⟩ ⟨by decide, by decide⟩ (by decide) (by decide) (show Int.tmod 3 3 = 0 from by decide)) ?_
  refine pe_go (pc := 162) rfl (s_aald (n := 3) (kd := 1) (gA0 hm rfl) (k := 0) (by omega) (by omega) rfl) ?_
  refine pe_go (pc := 163) rfl (s_iconst (z := 0) rfl) ?_
  refine pe_go (pc := 164) rfl (s_lald (n := 3) (f := vp_updL (vp_updL (vp_updL (fun _ => 0) 0 (lI (px - cx))) 1 (lI (py - cy))) 2 (lI (((px - cx) * (px - cx)) + ((py - cy) * (py - cy))))) (v := lI (px - cx)) (gA hm rfl) (k := 0) (by omega) (by omega) (by decide) rfl) ?_
  refine pe_go (pc := 165) rfl s_lmul ?_
  refine pe_go (pc := 166) rfl s_lsub ?_
  refine pe_go (pc := 167) rfl s_lmul ?_
  refine pe_go (pc := 168) rfl s_ladd ?_
  refine pe_go (pc := 169) rfl (s_lstore (lv' := [(6, .long (lI ((0 + ((((px - cx) * (px - cx)) + ((py - cy) * (py - cy))) * (((qx - cx) * (ry - cy)) - ((qy - cy) * (rx - cx))))) + ((((qx - cx) * (qx - cx)) + ((qy - cy) * (qy - cy))) * (((rx - cx) * (py - cy)) - ((ry - cy) * (px - cx))))))), (8, .int (iI 1)), (9, .long (lI (ry - cy))), (5, .ref (m + 1)), (4, .ref m), (0, .ref p), (1, .ref q), (2, .ref r), (3, .ref c)]) rfl) ?_
  refine pe_go (pc := 171) rfl (s_iinc (x := 1) (y := 2) rfl (by omega) (lv' := [(8, .int (iI 2)), (6, .long (lI ((0 + ((((px - cx) * (px - cx)) + ((py - cy) * (py - cy))) * (((qx - cx) * (ry - cy)) - ((qy - cy) * (rx - cx))))) + ((((qx - cx) * (qx - cx)) + ((qy - cy) * (qy - cy))) * (((rx - cx) * (py - cy)) - ((ry - cy) * (px - cx))))))), (9, .long (lI (ry - cy))), (5, .ref (m + 1)), (4, .ref m), (0, .ref p), (1, .ref q), (2, .ref r), (3, .ref c)]) rfl) ?_
  refine pe_go (pc := 174) rfl s_goto ?_
  refine pe_go (pc := 105) rfl (s_iload rfl) ?_
  refine pe_go (pc := 107) rfl (s_iconst (z := 3) rfl) ?_
  refine pe_go rfl (s_icmp_ge_f ⟨by decide, by decide⟩ ⟨by decide, by decide⟩ (by decide)) ?_
  refine pe_go (pc := 111) rfl (s_lload rfl) ?_
  refine pe_go (pc := 113) rfl (s_aload rfl) ?_
  refine pe_go (pc := 115) rfl (s_iload rfl) ?_
  refine pe_go (pc := 117) rfl (s_aald (n := 3) (kd := 1) (gA0 hm rfl) (k := 2) (by omega) (by omega) rfl) ?_
  refine pe_go (pc := 118) rfl (s_iconst (z := 2) rfl) ?_
  refine pe_go (pc := 119) rfl (s_lald (n := 3) (f := vp_updL (vp_updL (vp_updL (fun _ => 0) 0 (lI (rx - cx))) 1 (lI (ry - cy))) 2 (lI (((rx - cx) * (rx - cx)) + ((ry - cy) * (ry - cy))))) (v := lI (((rx - cx) * (rx - cx)) + ((ry - cy) * (ry - cy)))) (gA hm rfl) (k := 2) (by omega) (by omega) (by decide) rfl) ?_
  refine pe_go (pc := 120) rfl (s_aload rfl) ?_
  refine pe_go (pc := 122) rfl (s_iload rfl) ?_
  refine pe_go (pc := 124) rfl (s_iconst (z := 1) rfl) ?_
  refine pe_go (q := (126, [(8, .int (iI 2)), (6, .long (lI ((0 + ((((px - cx) * (px - cx)) + ((py - cy) * (py - cy))) * (((qx - cx) * (ry - cy)) - ((qy - cy) * (rx - cx))))) + ((((qx - cx) * (qx - cx)) + ((qy - cy) * (qy - cy))) * (((rx - cx) * (py - cy)) - ((ry - cy) * (px - cx))))))), (9, .long (lI (ry - cy))), (5, .ref (m + 1)), (4, .ref m), (0, .ref p), (1, .ref q), (2, .ref r), (3, .ref c)], [.int (iI 3), .ref m, .long (lI (((rx - cx) * (rx - cx)) + ((ry - cy) * (ry - cy)))), .long (lI ((0 + ((((px - cx) * (px - cx)) + ((py - cy) * (py - cy))) * (((qx - cx) * (ry - cy)) - ((qy - cy) * (rx - cx))))) + ((((qx - cx) * (qx - cx)) + ((qy - cy) * (qy - cy))) * (((rx - cx) * (py - cy)) - ((ry - cy) * (px - cx))))))], w ++ [.inl (4, 3, rfs (va_up (va_up (va_up (fun _ => none) 0 (some (m + 2))) 1 (some (m + 3))) 2 (some (m + 4)))), .inl (3, 3, rfs (va_up (va_up (va_up (fun _ => none) 0 (some p)) 1 (some q)) 2 (some r))), .inl (1, 3, .inr (.inl (vp_updL (vp_updL (vp_updL (fun _ => 0) 0 (lI (px - cx))) 1 (lI (py - cy))) 2 (lI (((px - cx) * (px - cx)) + ((py - cy) * (py - cy))))))), .inl (1, 3, .inr (.inl (vp_updL (vp_updL (vp_updL (fun _ => 0) 0 (lI (qx - cx))) 1 (lI (qy - cy))) 2 (lI (((qx - cx) * (qx - cx)) + ((qy - cy) * (qy - cy))))))), .inl (1, 3, .inr (.inl (vp_updL (vp_updL (vp_updL (fun _ => 0) 0 (lI (rx - cx))) 1 (lI (ry - cy))) 2 (lI (((rx - cx) * (rx - cx)) + ((ry - cy) * (ry - cy)))))))])) rfl s_iadd ?_
  refine pe_go (pc := 126) rfl (s_iconst (z := 3) rfl) ?_
  refine pe_go (pc := 127) rfl (s_irem ⟨by decide, by decide⟩ ⟨by decide, by decide⟩ (by decide) (by decide) (show Int.tmod 3 3 = 0 from by decide)) ?_
  refine pe_go (pc := 128) rfl (s_aald (n := 3) (kd := 1) (gA0 hm rfl) (k := 0) (by omega) (by omega) rfl) ?_
  refine pe_go (pc := 129) rfl (s_iconst (z := 0) rfl) ?_
  refine pe_go (pc := 130) rfl (s_lald (n := 3) (f := vp_updL (vp_updL (vp_updL (fun _ => 0) 0 (lI (px - cx))) 1 (lI (py - cy))) 2 (lI (((px - cx) * (px - cx)) + ((py - cy) * (py - cy))))) (v := lI (px - cx)) (gA hm rfl) (k := 0) (by omega) (by omega) (by decide) rfl) ?_
  refine pe_go (pc := 131) rfl (s_aload rfl) ?_
  refine pe_go (pc := 133) rfl (s_iload rfl) ?_
  refine pe_go (pc := 135) rfl (s_iconst (z := 2) rfl) ?_
  refine pe_go (q := (137, [(8, .int (iI 2)), (6, .long (lI ((0 + ((((px - cx) * (px - cx)) + ((py - cy) * (py - cy))) * (((qx - cx) * (ry - cy)) - ((qy - cy) * (rx - cx))))) + ((((qx - cx) * (qx - cx)) + ((qy - cy) * (qy - cy))) * (((rx - cx) * (py - cy)) - ((ry - cy) * (px - cx))))))), (9, .long (lI (ry - cy))), (5, .ref (m + 1)), (4, .ref m), (0, .ref p), (1, .ref q), (2, .ref r), (3, .ref c)], [.int (iI 4), .ref m, .long (lI (px - cx)), .long (lI (((rx - cx) * (rx - cx)) + ((ry - cy) * (ry - cy)))), .long (lI ((0 + ((((px - cx) * (px - cx)) + ((py - cy) * (py - cy))) * (((qx - cx) * (ry - cy)) - ((qy - cy) * (rx - cx))))) + ((((qx - cx) * (qx - cx)) + ((qy - cy) * (qy - cy))) * (((rx - cx) * (py - cy)) - ((ry - cy) * (px - cx))))))], w ++ [.inl (4, 3, rfs (va_up (va_up (va_up (fun _ => none) 0 (some (m + 2))) 1 (some (m + 3))) 2 (some (m + 4)))), .inl (3, 3, rfs (va_up (va_up (va_up (fun _ => none) 0 (some p)) 1 (some q)) 2 (some r))), .inl (1, 3, .inr (.inl (vp_updL (vp_updL (vp_updL (fun _ => 0) 0 (lI (px - cx))) 1 (lI (py - cy))) 2 (lI (((px - cx) * (px - cx)) + ((py - cy) * (py - cy))))))), .inl (1, 3, .inr (.inl (vp_updL (vp_updL (vp_updL (fun _ => 0) 0 (lI (qx - cx))) 1 (lI (qy - cy))) 2 (lI (((qx - cx) * (qx - cx)) + ((qy - cy) * (qy - cy))))))), .inl (1, 3, .inr (.inl (vp_updL (vp_updL (vp_updL (fun _ => 0) 0 (lI (rx - cx))) 1 (lI (ry - cy))) 2 (lI (((rx - cx) * (rx - cx)) + ((ry - cy) * (ry - cy)))))))])) rfl s_iadd ?_
  refine pe_go (pc := 137) rfl (s_iconst (z := 3) rfl) ?_
  refine pe_go (pc := 138) rfl (s_irem ⟨by decide, by decide⟩ ⟨by decide, by decide⟩ (by decide) (by decide) (show Int.tmod 4 3 = 1 from by decide)) ?_
  refine pe_go (pc := 139) rfl (s_aald (n := 3) (kd := 1) (gA0 hm rfl) (k := 1) (by omega) (by omega) rfl) ?_
  refine pe_go (pc := 140) rfl (s_iconst (z := 1) rfl) ?_
  refine pe_go (pc := 141) rfl (s_lald (n := 3) (f := vp_updL (vp_updL (vp_updL (fun _ => 0) 0 (lI (qx - cx))) 1 (lI (qy - cy))) 2 (lI (((qx - cx) * (qx - cx)) + ((qy - cy) * (qy - cy))))) (v := lI (qy - cy)) (gA hm rfl) (k := 1) (by omega) (by omega) (by decide) rfl) ?_
  refine pe_go (pc := 142) rfl s_lmul ?_
  refine pe_go (pc := 143) rfl (s_aload rfl) ?_
  refine pe_go (pc := 145) rfl (s_iload rfl) ?_
  refine pe_go (pc := 147) rfl (s_iconst (z := 1) rfl) ?_
  refine pe_go (q := (149, [(8, .int (iI 2)), (6, .long (lI ((0 + ((((px - cx) * (px - cx)) + ((py - cy) * (py - cy))) * (((qx - cx) * (ry - cy)) - ((qy - cy) * (rx - cx))))) + ((((qx - cx) * (qx - cx)) + ((qy - cy) * (qy - cy))) * (((rx - cx) * (py - cy)) - ((ry - cy) * (px - cx))))))), (9, .long (lI (ry - cy))), (5, .ref (m + 1)), (4, .ref m), (0, .ref p), (1, .ref q), (2, .ref r), (3, .ref c)], [.int (iI 3), .ref m, .long (lI ((px - cx) * (qy - cy))), .long (lI (((rx - cx) * (rx - cx)) + ((ry - cy) * (ry - cy)))), .long (lI ((0 + ((((px - cx) * (px - cx)) + ((py - cy) * (py - cy))) * (((qx - cx) * (ry - cy)) - ((qy - cy) * (rx - cx))))) + ((((qx - cx) * (qx - cx)) + ((qy - cy) * (qy - cy))) * (((rx - cx) * (py - cy)) - ((ry - cy) * (px - cx))))))], w ++ [.inl (4, 3, rfs (va_up (va_up (va_up (fun _ => none) 0 (some (m + 2))) 1 (some (m + 3))) 2 (some (m + 4)))), .inl (3, 3, rfs (va_up (va_up (va_up (fun _ => none) 0 (some p)) 1 (some q)) 2 (some r))), .inl (1, 3, .inr (.inl (vp_updL (vp_updL (vp_updL (fun _ => 0) 0 (lI (px - cx))) 1 (lI (py - cy))) 2 (lI (((px - cx) * (px - cx)) + ((py - cy) * (py - cy))))))), .inl (1, 3, .inr (.inl (vp_updL (vp_updL (vp_updL (fun _ => 0) 0 (lI (qx - cx))) 1 (lI (qy - cy))) 2 (lI (((qx - cx) * (qx - cx)) + ((qy - cy) * (qy - cy))))))), .inl (1, 3, .inr (.inl (vp_updL (vp_updL (vp_updL (fun _ => 0) 0 (lI (rx - cx))) 1 (lI (ry - cy))) 2 (lI (((rx - cx) * (rx - cx)) + ((ry - cy) * (ry - cy)))))))])) rfl s_iadd ?_
  refine pe_go (pc := 149) rfl (s_iconst (z := 3) rfl) ?_
  refine pe_go (pc := 150) rfl (s_irem ⟨by decide, by decide⟩ ⟨by decide, by decide⟩ (by decide) (by decide) (show Int.tmod 3 3 = 0 from by decide)) ?_
  refine pe_go (pc := 151) rfl (s_aald (n := 3) (kd := 1) (gA0 hm rfl) (k := 0) (by omega) (by omega) rfl) ?_
  refine pe_go (pc := 152) rfl (s_iconst (z := 1) rfl) ?_
  refine pe_go (pc := 153) rfl (s_lald (n := 3) (f := vp_updL (vp_updL (vp_updL (fun _ => 0) 0 (lI (px - cx))) 1 (lI (py - cy))) 2 (lI (((px - cx) * (px - cx)) + ((py - cy) * (py - cy))))) (v := lI (py - cy)) (gA hm rfl) (k := 1) (by omega) (by omega) (by decide) rfl) ?_
  refine pe_go (pc := 154) rfl (s_aload rfl) ?_
  refine pe_go (pc := 156) rfl (s_iload rfl) ?_
  refine pe_go (pc := 158) rfl (s_iconst (z := 2) rfl) ?_
  refine pe_go (q := (160, [(8, .int (iI 2)), (6, .long (lI ((0 + ((((px - cx) * (px - cx)) + ((py - cy) * (py - cy))) * (((qx - cx) * (ry - cy)) - ((qy - cy) * (rx - cx))))) + ((((qx - cx) * (qx - cx)) + ((qy - cy) * (qy - cy))) * (((rx - cx) * (py - cy)) - ((ry - cy) * (px - cx))))))), (9, .long (lI (ry - cy))), (5, .ref (m + 1)), (4, .ref m), (0, .ref p), (1, .ref q), (2, .ref r), (3, .ref c)], [.int (iI 4), .ref m, .long (lI (py - cy)), .long (lI ((px - cx) * (qy - cy))), .long (lI (((rx - cx) * (rx - cx)) + ((ry - cy) * (ry - cy)))), .long (lI ((0 + ((((px - cx) * (px - cx)) + ((py - cy) * (py - cy))) * (((qx - cx) * (ry - cy)) - ((qy - cy) * (rx - cx))))) + ((((qx - cx) * (qx - cx)) + ((qy - cy) * (qy - cy))) * (((rx - cx) * (py - cy)) - ((ry - cy) * (px - cx))))))], w ++ [.inl (4, 3, rfs (va_up (va_up (va_up (fun _ => none) 0 (some (m + 2))) 1 (some (m + 3))) 2 (some (m + 4)))), .inl (3, 3, rfs (va_up (va_up (va_up (fun _ => none) 0 (some p)) 1 (some q)) 2 (some r))), .inl (1, 3, .inr (.inl (vp_updL (vp_updL (vp_updL (fun _ => 0) 0 (lI (px - cx))) 1 (lI (py - cy))) 2 (lI (((px - cx) * (px - cx)) + ((py - cy) * (py - cy))))))), .inl (1, 3, .inr (.inl (vp_updL (vp_updL (vp_updL (fun _ => 0) 0 (lI (qx - cx))) 1 (lI (qy - cy))) 2 (lI (((qx - cx) * (qx - cx)) + ((qy - cy) * (qy - cy))))))), .inl (1, 3, .inr (.inl (vp_updL (vp_updL (vp_updL (fun _ => 0) 0 (lI (rx - cx))) 1 (lI (ry - cy))) 2 (lI (((rx - cx) * (rx - cx)) + ((ry - cy) * (ry - cy)))))))])) rfl s_iadd ?_
  refine pe_go (pc := 160) rfl (s_iconst (z := 3) rfl) ?_
  refine pe_go (pc := 161) rfl (s_irem ⟨by decide, by decide⟩ ⟨by decide, by decide⟩ (by decide) (by decide) (show Int.tmod 4 3 = 1 from by decide)) ?_
  refine pe_go (pc := 162) rfl (s_aald (n := 3) (kd := 1) (gA0 hm rfl) (k := 1) (by omega) (by omega) rfl) ?_
  refine pe_go (pc := 163) rfl (s_iconst (z := 0) rfl) ?_
  refine pe_go (pc := 164) rfl (s_lald (n := 3) (f := vp_updL (vp_updL (vp_updL (fun _ => 0) 0 (lI (qx - cx))) 1 (lI (qy - cy))) 2 (lI (((qx - cx) * (qx - cx)) + ((qy - cy) * (qy - cy))))) (v := lI (qx - cx)) (gA hm rfl) (k := 0) (by omega) (by omega) (by decide) rfl) ?_
  refine pe_go (pc := 165) rfl s_lmul ?_
  refine pe_go (pc := 166) rfl s_lsub ?_
  refine pe_go (pc := 167) rfl s_lmul ?_
  refine pe_go (pc := 168) rfl s_ladd ?_
  refine pe_go (pc := 169) rfl (s_lstore (lv' := [(6, .long (lI (((0 + ((((px - cx) * (px - cx)) + ((py - cy) * (py - cy))) * (((qx - cx) * (ry - cy)) - ((qy - cy) * (rx - cx))))) + ((((qx - cx) * (qx - cx)) + ((qy - cy) * (qy - cy))) * (((rx - cx) * (py - cy)) - ((ry - cy) * (px - cx))))) + ((((rx - cx) * (rx - cx)) + ((ry - cy) * (ry - cy))) * (((px - cx) * (qy - cy)) - ((py - cy) * (qx - cx))))))), (8, .int (iI 2)), (9, .long (lI (ry - cy))), (5, .ref (m + 1)), (4, .ref m), (0, .ref p), (1, .ref q), (2, .ref r), (3, .ref c)]) rfl) ?_
  refine pe_go (pc := 171) rfl (s_iinc (x := 2) (y := 3) rfl (by omega) (lv' := [(8, .int (iI 3)), (6, .long (lI (((0 + ((((px - cx) * (px - cx)) + ((py - cy) * (py - cy))) * (((qx - cx) * (ry - cy)) - ((qy - cy) * (rx - cx))))) + ((((qx - cx) * (qx - cx)) + ((qy - cy) * (qy - cy))) * (((rx - cx) * (py - cy)) - ((ry - cy) * (px - cx))))) + ((((rx - cx) * (rx - cx)) + ((ry - cy) * (ry - cy))) * (((px - cx) * (qy - cy)) - ((py - cy) * (qx - cx))))))), (9, .long (lI (ry - cy))), (5, .ref (m + 1)), (4, .ref m), (0, .ref p), (1, .ref q), (2, .ref r), (3, .ref c)]) rfl) ?_
  refine pe_go (pc := 174) rfl s_goto ?_
  refine pe_go (pc := 105) rfl (s_iload rfl) ?_
  refine pe_go (pc := 107) rfl (s_iconst (z := 3) rfl) ?_
  refine pe_go rfl (s_icmp_ge_t ⟨by decide, by decide⟩ ⟨by decide, by decide⟩ (by decide)) ?_
  refine pe_go (pc := 177) rfl (s_lload rfl) ?_
  exact pe_ret rfl s_retl ⟨rfl, _, rfl, rfl, rfl⟩
