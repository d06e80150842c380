/-! THE LAW: the fourteen counts against the object's own. Rows laid by program (wip/p63/wk.py, hw.py, mk98zc.py). -/
/-- the fourteen counts in their row -/
def is14 (v0 v1 v2 v3 v4 v6 v7 v8 v10 v11 v12 : Int) : Nat → Int := (uZ (uZ (uZ (uZ (uZ (uZ (uZ (uZ (uZ (uZ (uZ (uZ (uZ (uZ (fun _ => (0 : Int)) 0 v0) 1 v1) 2 v2) 3 v3) 4 v4) 5 (-5)) 6 v6) 7 v7) 8 v8) 9 (-5)) 10 v10) 11 v11) 12 v12) 13 (-1))
theorem l_row14 {w : pW} {m : Nat} (hm : w.length = m) {O Q : Nat → Prop} {a : Nat} {X : Sh} {pa fa ha : Nat} {pf gf hf : Nat → Option Nat} {ff : Nat → Nat} (hS : shP w O Q a X pa fa ha pf gf hf ff) {b e g q T : Nat} {mx x3 x4 x5 x6 x7 x8 A0 A1 : Int} {fg : Nat → Int} (hg : w[g]? = some (.inl (0, 2, .inl (fun j => iI (fg j))))) (ha0 : fg 0 = A0) (ha1 : fg 1 = A1) {Φ : Option Value → pW → Prop} (KK : qE 151 (1276, [(14, .int (iI ((0 : Nat) : Int))), (13, .ref m), (12, .int (iI mx)), (11, .ref e), (10, .ref g), (9, .ref q), (8, .int (iI x8)), (7, .int (iI x7)), (6, .int (iI x6)), (5, .int (iI x5)), (4, .int (iI x4)), (3, .int (iI x3)), (2, .int (iI (T : Int))), (0, .ref b), (1, .ref a)], [], w ++ [.inl (0, 14, .inl (fun j => iI ((is14 x4 (T : Int) x7 x5 x6 X.2.2.2 x8 ((X.2.2.1 : Nat) : Int) A0 A1 mx) j)))]) Φ) : qE 151 (1182, [(12, .int (iI mx)), (11, .ref e), (10, .ref g), (9, .ref q), (8, .int (iI x8)), (7, .int (iI x7)), (6, .int (iI x6)), (5, .int (iI x5)), (4, .int (iI x4)), (3, .int (iI x3)), (2, .int (iI (T : Int))), (0, .ref b), (1, .ref a)], [], w) Φ := by
  obtain ⟨hb9, h0, h1, h2, h3, h4, h5, h6, h7, h8, h9⟩ := hS
  refine pe_go (pc := 1182) rfl (s_bipush (z := 14) rfl) ?_
  refine pe_go (pc := 1184) rfl (s_newM (n := 14) hm rfl (by decide)) ?_
  refine pe_go (pc := 1186) rfl (s_dup rfl) ?_
  refine pe_go (pc := 1187) rfl (s_iconst (z := 0) rfl) ?_
  refine pe_go (pc := 1188) rfl (s_iload rfl) ?_
  refine pe_go (pc := 1190) rfl (s_iast (n := 14) (f := fun _ => (0 : Int)) (w' := w ++ [.inl (0, 14, .inl (fun j => iI ((uZ (fun _ => (0 : Int)) 0 x4) j)))]) (get_end hm) (k := 0) (by omega) (by omega) (by decide) (set_end hm)) ?_
  refine pe_go (pc := 1191) rfl (s_dup rfl) ?_
  refine pe_go (pc := 1192) rfl (s_iconst (z := 1) rfl) ?_
  refine pe_go (pc := 1193) rfl (s_iload_n rfl) ?_
  refine pe_go (pc := 1194) rfl (s_iast (n := 14) (f := uZ (fun _ => (0 : Int)) 0 x4) (w' := w ++ [.inl (0, 14, .inl (fun j => iI ((uZ (uZ (fun _ => (0 : Int)) 0 x4) 1 (T : Int)) j)))]) (get_end hm) (k := 1) (by omega) (by omega) (by decide) (set_end hm)) ?_
  refine pe_go (pc := 1195) rfl (s_dup rfl) ?_
  refine pe_go (pc := 1196) rfl (s_iconst (z := 2) rfl) ?_
  refine pe_go (pc := 1197) rfl (s_iload rfl) ?_
  refine pe_go (pc := 1199) rfl (s_iast (n := 14) (f := uZ (uZ (fun _ => (0 : Int)) 0 x4) 1 (T : Int)) (w' := w ++ [.inl (0, 14, .inl (fun j => iI ((uZ (uZ (uZ (fun _ => (0 : Int)) 0 x4) 1 (T : Int)) 2 x7) j)))]) (get_end hm) (k := 2) (by omega) (by omega) (by decide) (set_end hm)) ?_
  refine pe_go (pc := 1200) rfl (s_dup rfl) ?_
  refine pe_go (pc := 1201) rfl (s_iconst (z := 3) rfl) ?_
  refine pe_go (pc := 1202) rfl (s_iload rfl) ?_
  refine pe_go (pc := 1204) rfl (s_iast (n := 14) (f := uZ (uZ (uZ (fun _ => (0 : Int)) 0 x4) 1 (T : Int)) 2 x7) (w' := w ++ [.inl (0, 14, .inl (fun j => iI ((uZ (uZ (uZ (uZ (fun _ => (0 : Int)) 0 x4) 1 (T : Int)) 2 x7) 3 x5) j)))]) (get_end hm) (k := 3) (by omega) (by omega) (by decide) (set_end hm)) ?_
  refine pe_go (pc := 1205) rfl (s_dup rfl) ?_
  refine pe_go (pc := 1206) rfl (s_iconst (z := 4) rfl) ?_
  refine pe_go (pc := 1207) rfl (s_iload rfl) ?_
  refine pe_go (pc := 1209) rfl (s_iast (n := 14) (f := uZ (uZ (uZ (uZ (fun _ => (0 : Int)) 0 x4) 1 (T : Int)) 2 x7) 3 x5) (w' := w ++ [.inl (0, 14, .inl (fun j => iI ((uZ (uZ (uZ (uZ (uZ (fun _ => (0 : Int)) 0 x4) 1 (T : Int)) 2 x7) 3 x5) 4 x6) j)))]) (get_end hm) (k := 4) (by omega) (by omega) (by decide) (set_end hm)) ?_
  refine pe_go (pc := 1210) rfl (s_dup rfl) ?_
  refine pe_go (pc := 1211) rfl (s_iconst (z := 5) rfl) ?_
  refine pe_go (pc := 1212) rfl (s_bipush (z := -5) rfl) ?_
  refine pe_go (pc := 1214) rfl (s_iast (n := 14) (f := uZ (uZ (uZ (uZ (uZ (fun _ => (0 : Int)) 0 x4) 1 (T : Int)) 2 x7) 3 x5) 4 x6) (w' := w ++ [.inl (0, 14, .inl (fun j => iI ((uZ (uZ (uZ (uZ (uZ (uZ (fun _ => (0 : Int)) 0 x4) 1 (T : Int)) 2 x7) 3 x5) 4 x6) 5 (-5)) j)))]) (get_end hm) (k := 5) (by omega) (by omega) (by decide) (set_end hm)) ?_
  refine pe_go (pc := 1215) rfl (s_dup rfl) ?_
  refine pe_go (pc := 1216) rfl (s_bipush (z := 6) rfl) ?_
  refine pe_go (pc := 1218) rfl (s_aload_n rfl) ?_
  refine pe_go (pc := 1219) rfl (s_getf (v := .int (iI X.2.2.2)) (cell_app h0) rfl) ?_
  refine pe_go (pc := 1222) rfl (s_iast (n := 14) (f := uZ (uZ (uZ (uZ (uZ (uZ (fun _ => (0 : Int)) 0 x4) 1 (T : Int)) 2 x7) 3 x5) 4 x6) 5 (-5)) (w' := w ++ [.inl (0, 14, .inl (fun j => iI ((uZ (uZ (uZ (uZ (uZ (uZ (uZ (fun _ => (0 : Int)) 0 x4) 1 (T : Int)) 2 x7) 3 x5) 4 x6) 5 (-5)) 6 X.2.2.2) j)))]) (get_end hm) (k := 6) (by omega) (by omega) (by decide) (set_end hm)) ?_
  refine pe_go (pc := 1223) rfl (s_dup rfl) ?_
  refine pe_go (pc := 1224) rfl (s_bipush (z := 7) rfl) ?_
  refine pe_go (pc := 1226) rfl (s_iload rfl) ?_
  refine pe_go (pc := 1228) rfl (s_iast (n := 14) (f := uZ (uZ (uZ (uZ (uZ (uZ (uZ (fun _ => (0 : Int)) 0 x4) 1 (T : Int)) 2 x7) 3 x5) 4 x6) 5 (-5)) 6 X.2.2.2) (w' := w ++ [.inl (0, 14, .inl (fun j => iI ((uZ (uZ (uZ (uZ (uZ (uZ (uZ (uZ (fun _ => (0 : Int)) 0 x4) 1 (T : Int)) 2 x7) 3 x5) 4 x6) 5 (-5)) 6 X.2.2.2) 7 x8) j)))]) (get_end hm) (k := 7) (by omega) (by omega) (by decide) (set_end hm)) ?_
  refine pe_go (pc := 1229) rfl (s_dup rfl) ?_
  refine pe_go (pc := 1230) rfl (s_bipush (z := 8) rfl) ?_
  refine pe_go (pc := 1232) rfl (s_aload_n rfl) ?_
  refine pe_go (pc := 1233) rfl (s_getf (v := .ref ha) (cell_app h0) rfl) ?_
  refine pe_go (pc := 1236) rfl (s_alenR (kd := 0) ⟨cell_app h7, by decide⟩) ?_
  refine pe_go (pc := 1237) rfl (s_iast (n := 14) (f := uZ (uZ (uZ (uZ (uZ (uZ (uZ (uZ (fun _ => (0 : Int)) 0 x4) 1 (T : Int)) 2 x7) 3 x5) 4 x6) 5 (-5)) 6 X.2.2.2) 7 x8) (w' := w ++ [.inl (0, 14, .inl (fun j => iI ((uZ (uZ (uZ (uZ (uZ (uZ (uZ (uZ (uZ (fun _ => (0 : Int)) 0 x4) 1 (T : Int)) 2 x7) 3 x5) 4 x6) 5 (-5)) 6 X.2.2.2) 7 x8) 8 ((X.2.2.1 : Nat) : Int)) j)))]) (get_end hm) (k := 8) (by omega) (by omega) (by decide) (set_end hm)) ?_
  refine pe_go (pc := 1238) rfl (s_dup rfl) ?_
  refine pe_go (pc := 1239) rfl (s_bipush (z := 9) rfl) ?_
  refine pe_go (pc := 1241) rfl (s_bipush (z := -5) rfl) ?_
  refine pe_go (pc := 1243) rfl (s_iast (n := 14) (f := uZ (uZ (uZ (uZ (uZ (uZ (uZ (uZ (uZ (fun _ => (0 : Int)) 0 x4) 1 (T : Int)) 2 x7) 3 x5) 4 x6) 5 (-5)) 6 X.2.2.2) 7 x8) 8 ((X.2.2.1 : Nat) : Int)) (w' := w ++ [.inl (0, 14, .inl (fun j => iI ((uZ (uZ (uZ (uZ (uZ (uZ (uZ (uZ (uZ (uZ (fun _ => (0 : Int)) 0 x4) 1 (T : Int)) 2 x7) 3 x5) 4 x6) 5 (-5)) 6 X.2.2.2) 7 x8) 8 ((X.2.2.1 : Nat) : Int)) 9 (-5)) j)))]) (get_end hm) (k := 9) (by omega) (by omega) (by decide) (set_end hm)) ?_
  refine pe_go (pc := 1244) rfl (s_dup rfl) ?_
  refine pe_go (pc := 1245) rfl (s_bipush (z := 10) rfl) ?_
  refine pe_go (pc := 1247) rfl (s_aload rfl) ?_
  refine pe_go (pc := 1249) rfl (s_iconst (z := 0) rfl) ?_
  refine pe_go (pc := 1250) rfl (s_iald (n := 2) (f := fg) (v := A0) (cell_app hg) (k := 0) (by omega) (by omega) (by decide) ha0) ?_
  refine pe_go (pc := 1251) rfl (s_iast (n := 14) (f := uZ (uZ (uZ (uZ (uZ (uZ (uZ (uZ (uZ (uZ (fun _ => (0 : Int)) 0 x4) 1 (T : Int)) 2 x7) 3 x5) 4 x6) 5 (-5)) 6 X.2.2.2) 7 x8) 8 ((X.2.2.1 : Nat) : Int)) 9 (-5)) (w' := w ++ [.inl (0, 14, .inl (fun j => iI ((uZ (uZ (uZ (uZ (uZ (uZ (uZ (uZ (uZ (uZ (uZ (fun _ => (0 : Int)) 0 x4) 1 (T : Int)) 2 x7) 3 x5) 4 x6) 5 (-5)) 6 X.2.2.2) 7 x8) 8 ((X.2.2.1 : Nat) : Int)) 9 (-5)) 10 A0) j)))]) (get_end hm) (k := 10) (by omega) (by omega) (by decide) (set_end hm)) ?_
  refine pe_go (pc := 1252) rfl (s_dup rfl) ?_
  refine pe_go (pc := 1253) rfl (s_bipush (z := 11) rfl) ?_
  refine pe_go (pc := 1255) rfl (s_aload rfl) ?_
  refine pe_go (pc := 1257) rfl (s_iconst (z := 1) rfl) ?_
  refine pe_go (pc := 1258) rfl (s_iald (n := 2) (f := fg) (v := A1) (cell_app hg) (k := 1) (by omega) (by omega) (by decide) ha1) ?_
  refine pe_go (pc := 1259) rfl (s_iast (n := 14) (f := uZ (uZ (uZ (uZ (uZ (uZ (uZ (uZ (uZ (uZ (uZ (fun _ => (0 : Int)) 0 x4) 1 (T : Int)) 2 x7) 3 x5) 4 x6) 5 (-5)) 6 X.2.2.2) 7 x8) 8 ((X.2.2.1 : Nat) : Int)) 9 (-5)) 10 A0) (w' := w ++ [.inl (0, 14, .inl (fun j => iI ((uZ (uZ (uZ (uZ (uZ (uZ (uZ (uZ (uZ (uZ (uZ (uZ (fun _ => (0 : Int)) 0 x4) 1 (T : Int)) 2 x7) 3 x5) 4 x6) 5 (-5)) 6 X.2.2.2) 7 x8) 8 ((X.2.2.1 : Nat) : Int)) 9 (-5)) 10 A0) 11 A1) j)))]) (get_end hm) (k := 11) (by omega) (by omega) (by decide) (set_end hm)) ?_
  refine pe_go (pc := 1260) rfl (s_dup rfl) ?_
  refine pe_go (pc := 1261) rfl (s_bipush (z := 12) rfl) ?_
  refine pe_go (pc := 1263) rfl (s_iload rfl) ?_
  refine pe_go (pc := 1265) rfl (s_iast (n := 14) (f := uZ (uZ (uZ (uZ (uZ (uZ (uZ (uZ (uZ (uZ (uZ (uZ (fun _ => (0 : Int)) 0 x4) 1 (T : Int)) 2 x7) 3 x5) 4 x6) 5 (-5)) 6 X.2.2.2) 7 x8) 8 ((X.2.2.1 : Nat) : Int)) 9 (-5)) 10 A0) 11 A1) (w' := w ++ [.inl (0, 14, .inl (fun j => iI ((uZ (uZ (uZ (uZ (uZ (uZ (uZ (uZ (uZ (uZ (uZ (uZ (uZ (fun _ => (0 : Int)) 0 x4) 1 (T : Int)) 2 x7) 3 x5) 4 x6) 5 (-5)) 6 X.2.2.2) 7 x8) 8 ((X.2.2.1 : Nat) : Int)) 9 (-5)) 10 A0) 11 A1) 12 mx) j)))]) (get_end hm) (k := 12) (by omega) (by omega) (by decide) (set_end hm)) ?_
  refine pe_go (pc := 1266) rfl (s_dup rfl) ?_
  refine pe_go (pc := 1267) rfl (s_bipush (z := 13) rfl) ?_
  refine pe_go (pc := 1269) rfl (s_iconst (z := -1) rfl) ?_
  refine pe_go (pc := 1270) rfl (s_iast (n := 14) (f := uZ (uZ (uZ (uZ (uZ (uZ (uZ (uZ (uZ (uZ (uZ (uZ (uZ (fun _ => (0 : Int)) 0 x4) 1 (T : Int)) 2 x7) 3 x5) 4 x6) 5 (-5)) 6 X.2.2.2) 7 x8) 8 ((X.2.2.1 : Nat) : Int)) 9 (-5)) 10 A0) 11 A1) 12 mx) (w' := w ++ [.inl (0, 14, .inl (fun j => iI ((uZ (uZ (uZ (uZ (uZ (uZ (uZ (uZ (uZ (uZ (uZ (uZ (uZ (uZ (fun _ => (0 : Int)) 0 x4) 1 (T : Int)) 2 x7) 3 x5) 4 x6) 5 (-5)) 6 X.2.2.2) 7 x8) 8 ((X.2.2.1 : Nat) : Int)) 9 (-5)) 10 A0) 11 A1) 12 mx) 13 (-1)) j)))]) (get_end hm) (k := 13) (by omega) (by omega) (by decide) (set_end hm)) ?_
  refine pe_go (pc := 1271) rfl (s_astore (lv' := [(13, .ref m), (12, .int (iI mx)), (11, .ref e), (10, .ref g), (9, .ref q), (8, .int (iI x8)), (7, .int (iI x7)), (6, .int (iI x6)), (5, .int (iI x5)), (4, .int (iI x4)), (3, .int (iI x3)), (2, .int (iI (T : Int))), (0, .ref b), (1, .ref a)]) rfl) ?_
  refine pe_go (pc := 1273) rfl (s_iconst (z := 0) rfl) ?_
  refine pe_go (pc := 1274) rfl (s_istore (lv' := [(14, .int (iI 0)), (13, .ref m), (12, .int (iI mx)), (11, .ref e), (10, .ref g), (9, .ref q), (8, .int (iI x8)), (7, .int (iI x7)), (6, .int (iI x6)), (5, .int (iI x5)), (4, .int (iI x4)), (3, .int (iI x3)), (2, .int (iI (T : Int))), (0, .ref b), (1, .ref a)]) rfl) ?_
  refine pe_few (lv := [(14, .int (iI ((0 : Nat) : Int))), (13, .ref m), (12, .int (iI mx)), (11, .ref e), (10, .ref g), (9, .ref q), (8, .int (iI x8)), (7, .int (iI x7)), (6, .int (iI x6)), (5, .int (iI x5)), (4, .int (iI x4)), (3, .int (iI x3)), (2, .int (iI (T : Int))), (0, .ref b), (1, .ref a)]) rfl rfl (by intro q hq; simp only [List.mem_cons, List.not_mem_nil, or_false] at hq; rcases hq with rfl | rfl | rfl | rfl | rfl | rfl | rfl | rfl | rfl | rfl | rfl | rfl | rfl | rfl | rfl <;> rfl) ?_
  exact KK
theorem l_isS {w : pW} {b : Nat} {m a e g q T : Nat} {mx x3 x4 x5 x6 x7 x8 : Int} {R : Nat → Int} (hm : rowI w m 14 R) {k : Nat} (hk : k < 14) {Φ : Option Value → pW → Prop} (hv : R k = -5) (KK : qE 151 (1276, [(14, .int (iI ((k + 1 : Nat) : Int))), (13, .ref m), (12, .int (iI mx)), (11, .ref e), (10, .ref g), (9, .ref q), (8, .int (iI x8)), (7, .int (iI x7)), (6, .int (iI x6)), (5, .int (iI x5)), (4, .int (iI x4)), (3, .int (iI x3)), (2, .int (iI (T : Int))), (0, .ref b), (1, .ref a)], [], w) Φ) : qE 151 (1276, [(14, .int (iI (k : Int))), (13, .ref m), (12, .int (iI mx)), (11, .ref e), (10, .ref g), (9, .ref q), (8, .int (iI x8)), (7, .int (iI x7)), (6, .int (iI x6)), (5, .int (iI x5)), (4, .int (iI x4)), (3, .int (iI x3)), (2, .int (iI (T : Int))), (0, .ref b), (1, .ref a)], [], w) Φ := by
  refine pe_go (pc := 1276) rfl (s_iload rfl) ?_
  refine pe_go (pc := 1278) rfl (s_bipush (z := 14) rfl) ?_
  refine pe_go rfl (s_icmp_ge_f ⟨by omega, by omega⟩ ⟨by decide, by decide⟩ (by omega)) ?_
  refine pe_go (pc := 1283) rfl (s_aload rfl) ?_
  refine pe_go (pc := 1285) rfl (s_iload rfl) ?_
  refine pe_go (pc := 1287) rfl (s_iald (n := 14) (f := R) (v := -5) hm (k := k) (by omega) (by omega) (by decide) hv) ?_
  refine pe_go (pc := 1288) rfl (s_bipush (z := -5) rfl) ?_
  refine pe_go rfl (s_icmp_eq_t ⟨by decide, by decide⟩ ⟨by decide, by decide⟩ (by decide)) ?_
  refine pe_go (pc := 1309) rfl (s_iinc (x := (k : Int)) (y := ((k + 1 : Nat) : Int)) rfl (by omega) (lv' := [(14, .int (iI ((k + 1 : Nat) : Int))), (13, .ref m), (12, .int (iI mx)), (11, .ref e), (10, .ref g), (9, .ref q), (8, .int (iI x8)), (7, .int (iI x7)), (6, .int (iI x6)), (5, .int (iI x5)), (4, .int (iI x4)), (3, .int (iI x3)), (2, .int (iI (T : Int))), (0, .ref b), (1, .ref a)]) rfl) ?_
  refine pe_go (pc := 1312) rfl s_goto ?_
  refine pe_few (lv := [(14, .int (iI ((k + 1 : Nat) : Int))), (13, .ref m), (12, .int (iI mx)), (11, .ref e), (10, .ref g), (9, .ref q), (8, .int (iI x8)), (7, .int (iI x7)), (6, .int (iI x6)), (5, .int (iI x5)), (4, .int (iI x4)), (3, .int (iI x3)), (2, .int (iI (T : Int))), (0, .ref b), (1, .ref a)]) rfl rfl (by intro q hq; simp only [List.mem_cons, List.not_mem_nil, or_false] at hq; rcases hq with rfl | rfl | rfl | rfl | rfl | rfl | rfl | rfl | rfl | rfl | rfl | rfl | rfl | rfl | rfl <;> rfl) ?_
  exact KK
theorem l_isV {w : pW} {pre post : pW} {b : Nat} (hb : pre.length = b) {S : St} {L M : List St} {K : St} (hO : OB pre post b S L M K w) {m a e g q T : Nat} {mx x3 x4 x5 x6 x7 x8 : Int} {R : Nat → Int} (hm : rowI w m 14 R) {k : Nat} (hk : k < 14) {Φ : Option Value → pW → Prop} (hs : sm (R k)) (hv : R k ≠ -5) (hc : pRun 105 [.ref b, .int (iI (k : Int))] w (some (.int (iI (R k)))) w) (KK : qE 151 (1276, [(14, .int (iI ((k + 1 : Nat) : Int))), (13, .ref m), (12, .int (iI mx)), (11, .ref e), (10, .ref g), (9, .ref q), (8, .int (iI x8)), (7, .int (iI x7)), (6, .int (iI x6)), (5, .int (iI x5)), (4, .int (iI x4)), (3, .int (iI x3)), (2, .int (iI (T : Int))), (0, .ref b), (1, .ref a)], [], w) Φ) : qE 151 (1276, [(14, .int (iI (k : Int))), (13, .ref m), (12, .int (iI mx)), (11, .ref e), (10, .ref g), (9, .ref q), (8, .int (iI x8)), (7, .int (iI x7)), (6, .int (iI x6)), (5, .int (iI x5)), (4, .int (iI x4)), (3, .int (iI x3)), (2, .int (iI (T : Int))), (0, .ref b), (1, .ref a)], [], w) Φ := by
  refine pe_go (pc := 1276) rfl (s_iload rfl) ?_
  refine pe_go (pc := 1278) rfl (s_bipush (z := 14) rfl) ?_
  refine pe_go rfl (s_icmp_ge_f ⟨by omega, by omega⟩ ⟨by decide, by decide⟩ (by omega)) ?_
  refine pe_go (pc := 1283) rfl (s_aload rfl) ?_
  refine pe_go (pc := 1285) rfl (s_iload rfl) ?_
  refine pe_go (pc := 1287) rfl (s_iald (n := 14) (f := R) (v := R k) hm (k := k) (by omega) (by omega) (by decide) rfl) ?_
  refine pe_go (pc := 1288) rfl (s_bipush (z := -5) rfl) ?_
  refine pe_go rfl (s_icmp_eq_f hs ⟨by decide, by decide⟩ hv) ?_
  refine pe_go (pc := 1293) rfl (s_aload_n rfl) ?_
  refine pe_go (pc := 1294) rfl (s_iload rfl) ?_
  refine pe_call rfl (s_invV rfl (OB.obj hb hO) rfl rfl) (hc) ?_
  refine pe_go (pc := 1299) rfl (s_aload rfl) ?_
  refine pe_go (pc := 1301) rfl (s_iload rfl) ?_
  refine pe_go (pc := 1303) rfl (s_iald (n := 14) (f := R) (v := R k) hm (k := k) (by omega) (by omega) (by decide) rfl) ?_
  refine pe_go rfl (s_icmp_eq_t hs hs rfl) ?_
  refine pe_go (pc := 1309) rfl (s_iinc (x := (k : Int)) (y := ((k + 1 : Nat) : Int)) rfl (by omega) (lv' := [(14, .int (iI ((k + 1 : Nat) : Int))), (13, .ref m), (12, .int (iI mx)), (11, .ref e), (10, .ref g), (9, .ref q), (8, .int (iI x8)), (7, .int (iI x7)), (6, .int (iI x6)), (5, .int (iI x5)), (4, .int (iI x4)), (3, .int (iI x3)), (2, .int (iI (T : Int))), (0, .ref b), (1, .ref a)]) rfl) ?_
  refine pe_go (pc := 1312) rfl s_goto ?_
  refine pe_few (lv := [(14, .int (iI ((k + 1 : Nat) : Int))), (13, .ref m), (12, .int (iI mx)), (11, .ref e), (10, .ref g), (9, .ref q), (8, .int (iI x8)), (7, .int (iI x7)), (6, .int (iI x6)), (5, .int (iI x5)), (4, .int (iI x4)), (3, .int (iI x3)), (2, .int (iI (T : Int))), (0, .ref b), (1, .ref a)]) rfl rfl (by intro q hq; simp only [List.mem_cons, List.not_mem_nil, or_false] at hq; rcases hq with rfl | rfl | rfl | rfl | rfl | rfl | rfl | rfl | rfl | rfl | rfl | rfl | rfl | rfl | rfl <;> rfl) ?_
  exact KK
theorem l_isC {w : pW} {pre post : pW} {b : Nat} (hb : pre.length = b) {S : St} {L M : List St} {K : St} (hO : OB pre post b S L M K w) {m a e g q T : Nat} {mx x3 x4 x5 x6 x7 x8 : Int} {R : Nat → Int} (hm : rowI w m 14 R) (hme : b + 57 ≤ m) {Φ : Option Value → pW → Prop} (hs : sm (R 12)) (hv : R 12 ≠ -5) (hu : ∀ (c : Nat → Int) (k : Int), colOk S c 40 → colN S c 40 k → k = R 12) (KK : ∀ w' : pW, OB pre post b S L M K w' → rowI w' m 14 R → qE 151 (1276, [(14, .int (iI ((13 : Nat) : Int))), (13, .ref m), (12, .int (iI mx)), (11, .ref e), (10, .ref g), (9, .ref q), (8, .int (iI x8)), (7, .int (iI x7)), (6, .int (iI x6)), (5, .int (iI x5)), (4, .int (iI x4)), (3, .int (iI x3)), (2, .int (iI (T : Int))), (0, .ref b), (1, .ref a)], [], w') Φ) : qE 151 (1276, [(14, .int (iI ((12 : Nat) : Int))), (13, .ref m), (12, .int (iI mx)), (11, .ref e), (10, .ref g), (9, .ref q), (8, .int (iI x8)), (7, .int (iI x7)), (6, .int (iI x6)), (5, .int (iI x5)), (4, .int (iI x4)), (3, .int (iI x3)), (2, .int (iI (T : Int))), (0, .ref b), (1, .ref a)], [], w) Φ := by
  refine pe_go (pc := 1276) rfl (s_iload rfl) ?_
  refine pe_go (pc := 1278) rfl (s_bipush (z := 14) rfl) ?_
  refine pe_go rfl (s_icmp_ge_f ⟨by omega, by omega⟩ ⟨by decide, by decide⟩ (by decide)) ?_
  refine pe_go (pc := 1283) rfl (s_aload rfl) ?_
  refine pe_go (pc := 1285) rfl (s_iload rfl) ?_
  refine pe_go (pc := 1287) rfl (s_iald (n := 14) (f := R) (v := R 12) hm (k := 12) (by omega) (by omega) (by decide) rfl) ?_
  refine pe_go (pc := 1288) rfl (s_bipush (z := -5) rfl) ?_
  refine pe_go rfl (s_icmp_eq_f hs ⟨by decide, by decide⟩ hv) ?_
  refine pe_go (pc := 1293) rfl (s_aload_n rfl) ?_
  refine pe_go (pc := 1294) rfl (s_iload rfl) ?_
  refine pe_callE rfl (s_invV rfl (OB.obj hb hO) rfl rfl) (o_is12 hb hO) ?_
  rintro _ w1 ⟨c1, k1, rfl, hk1, hn1, hO1⟩
  have hk9 : k1 = R 12 := hu _ _ hk1 hn1
  rw [hk9]
  have hm9 : rowI w1 m 14 R := OB_keep hb hO hO1 (Or.inr hme) hm
  refine pe_go (pc := 1299) rfl (s_aload rfl) ?_
  refine pe_go (pc := 1301) rfl (s_iload rfl) ?_
  refine pe_go (pc := 1303) rfl (s_iald (n := 14) (f := R) (v := R 12) hm9 (k := 12) (by omega) (by omega) (by decide) rfl) ?_
  refine pe_go rfl (s_icmp_eq_t hs hs rfl) ?_
  refine pe_go (pc := 1309) rfl (s_iinc (x := ((12 : Nat) : Int)) (y := ((12 + 1 : Nat) : Int)) rfl (by omega) (lv' := [(14, .int (iI ((12 + 1 : Nat) : Int))), (13, .ref m), (12, .int (iI mx)), (11, .ref e), (10, .ref g), (9, .ref q), (8, .int (iI x8)), (7, .int (iI x7)), (6, .int (iI x6)), (5, .int (iI x5)), (4, .int (iI x4)), (3, .int (iI x3)), (2, .int (iI (T : Int))), (0, .ref b), (1, .ref a)]) rfl) ?_
  refine pe_go (pc := 1312) rfl s_goto ?_
  refine pe_few (lv := [(14, .int (iI ((13 : Nat) : Int))), (13, .ref m), (12, .int (iI mx)), (11, .ref e), (10, .ref g), (9, .ref q), (8, .int (iI x8)), (7, .int (iI x7)), (6, .int (iI x6)), (5, .int (iI x5)), (4, .int (iI x4)), (3, .int (iI x3)), (2, .int (iI (T : Int))), (0, .ref b), (1, .ref a)]) rfl rfl (by intro q hq; simp only [List.mem_cons, List.not_mem_nil, or_false] at hq; rcases hq with rfl | rfl | rfl | rfl | rfl | rfl | rfl | rfl | rfl | rfl | rfl | rfl | rfl | rfl | rfl <;> rfl) ?_
  exact KK _ hO1 hm9
theorem l_isE {w : pW} {m a b e g q T : Nat} {mx x3 x4 x5 x6 x7 x8 : Int} {Φ : Option Value → pW → Prop} (KK : qE 151 (1315, [(3, .int (iI x3)), (4, .int (iI x4)), (7, .int (iI x7)), (2, .int (iI (T : Int))), (0, .ref b), (1, .ref a)], [], w) Φ) : qE 151 (1276, [(14, .int (iI ((14 : Nat) : Int))), (13, .ref m), (12, .int (iI mx)), (11, .ref e), (10, .ref g), (9, .ref q), (8, .int (iI x8)), (7, .int (iI x7)), (6, .int (iI x6)), (5, .int (iI x5)), (4, .int (iI x4)), (3, .int (iI x3)), (2, .int (iI (T : Int))), (0, .ref b), (1, .ref a)], [], w) Φ := by
  refine pe_go (pc := 1276) rfl (s_iload rfl) ?_
  refine pe_go (pc := 1278) rfl (s_bipush (z := 14) rfl) ?_
  refine pe_go rfl (s_icmp_ge_t ⟨by omega, by omega⟩ ⟨by decide, by decide⟩ (by decide)) ?_
  refine pe_few (lv := [(3, .int (iI x3)), (4, .int (iI x4)), (7, .int (iI x7)), (2, .int (iI (T : Int))), (0, .ref b), (1, .ref a)]) rfl rfl (by intro q hq; simp only [List.mem_cons, List.not_mem_nil, or_false] at hq; rcases hq with rfl | rfl | rfl | rfl | rfl | rfl <;> rfl) ?_
  exact KK
