/-! THE LAW: the last questions to a mesh. Rows laid by program (wip/p63/wk.py, hw.py, mk98o.py). -/
theorem l_meshEnd {w : pW} {pre post : pW} {b : Nat} (hb : pre.length = b) {S : St} {L M : List St} {K : St} (hO : OB pre post b S L M K w) {a : Nat} {T : Nat} (hT : S.tn = (T : Int)) (hT2 : T ≤ 74) (hT0 : 0 < T) {V E : Int} (hV : 0 ≤ V ∧ V ≤ 40) (hE : 0 ≤ E ∧ E ≤ 1000) (hVE : V - E + (T : Int) = 1) : qE 151 (1315, [(3, .int (iI 8000000)), (4, .int (iI V)), (7, .int (iI E)), (2, .int (iI (T : Int))), (0, .ref b), (1, .ref a)], [], w) (fun r' w' => r' = some (.int (bI true)) ∧ w' = w) := by
  refine pe_go (pc := 1315) rfl (s_iload_n rfl) ?_
  refine pe_go (pc := 1316) rfl (s_ldc (z := 8000000) rfl) ?_
  refine pe_go rfl (s_icmp_ne_f ⟨by decide, by decide⟩ ⟨by decide, by decide⟩ (by decide)) ?_
  refine pe_go (pc := 1321) rfl (s_iload rfl) ?_
  refine pe_go (pc := 1323) rfl (s_iload rfl) ?_
  refine pe_go (pc := 1325) rfl s_isub ?_
  refine pe_go (pc := 1326) rfl (s_iload_n rfl) ?_
  refine pe_go (pc := 1327) rfl s_iadd ?_
  refine pe_go (pc := 1328) rfl (s_iconst (z := 1) rfl) ?_
  refine pe_go rfl (s_icmp_ne_f ⟨by omega, by omega⟩ ⟨by decide, by decide⟩ (by omega)) ?_
  refine pe_go (pc := 1332) rfl (s_aload_n rfl) ?_
  refine pe_go (pc := 1333) rfl (s_iload_n rfl) ?_
  refine pe_go (pc := 1334) rfl (s_iconst (z := 0) rfl) ?_
  refine pe_call rfl (s_invV rfl (OB.obj hb hO) rfl rfl) (o_cornerN hb hO hT hT2 (z := (T : Int)) (y := 0) ⟨by omega, by omega⟩ (Or.inr (Int.le_refl _))) ?_
  refine pe_go (pc := 1338) rfl (s_iconst (z := -1) rfl) ?_
  refine pe_go rfl (s_icmp_ne_f ⟨by decide, by decide⟩ ⟨by decide, by decide⟩ (by decide)) ?_
  refine pe_go (pc := 1342) rfl (s_aload_n rfl) ?_
  refine pe_go (pc := 1343) rfl (s_iconst (z := 0) rfl) ?_
  refine pe_go (pc := 1344) rfl (s_iconst (z := 3) rfl) ?_
  refine pe_call rfl (s_invV rfl (OB.obj hb hO) rfl rfl) (o_corner3 hb hO hT hT2 (t := 0) (by omega)) ?_
  refine pe_go (pc := 1348) rfl (s_iconst (z := -1) rfl) ?_
  refine pe_go rfl (s_icmp_ne_f ⟨by decide, by decide⟩ ⟨by decide, by decide⟩ (by decide)) ?_
  refine pe_go (pc := 1352) rfl (s_aload_n rfl) ?_
  refine pe_go (pc := 1353) rfl (s_iconst (z := 0) rfl) ?_
  refine pe_go (pc := 1354) rfl (s_iconst (z := 3) rfl) ?_
  refine pe_call rfl (s_invV rfl (OB.obj hb hO) rfl rfl) (o_beyond3 hb hO hT hT2 (t := 0) (by omega)) ?_
  refine pe_go (pc := 1358) rfl (s_iconst (z := -1) rfl) ?_
  refine pe_go rfl (s_icmp_ne_f ⟨by decide, by decide⟩ ⟨by decide, by decide⟩ (by decide)) ?_
  refine pe_go (pc := 1362) rfl (s_aload_n rfl) ?_
  refine pe_go (pc := 1363) rfl (s_iload_n rfl) ?_
  refine pe_call rfl (s_invV rfl (OB.obj hb hO) rfl rfl) (o_areaN hb hO hT hT2 (z := (T : Int)) ⟨by omega, by omega⟩ (Or.inr (Int.le_refl _))) ?_
  refine pe_go (pc := 1367) rfl (s_iconst (z := -1) rfl) ?_
  refine pe_go rfl (s_icmp_ne_f ⟨by decide, by decide⟩ ⟨by decide, by decide⟩ (by decide)) ?_
  refine pe_go (pc := 1371) rfl (s_aload_n rfl) ?_
  refine pe_go (pc := 1372) rfl (s_iconst (z := -1) rfl) ?_
  refine pe_call rfl (s_invV rfl (OB.obj hb hO) rfl rfl) (o_areaN hb hO hT hT2 (z := -1) ⟨by decide, by decide⟩ (Or.inl (by decide))) ?_
  refine pe_go (pc := 1376) rfl (s_iconst (z := -1) rfl) ?_
  refine pe_go rfl (s_icmp_ne_f ⟨by decide, by decide⟩ ⟨by decide, by decide⟩ (by decide)) ?_
  refine pe_go (pc := 1380) rfl (s_iconst (z := 1) rfl) ?_
  refine pe_go (pc := 1381) rfl s_goto ?_
  exact pe_ret rfl s_ret1 ⟨rfl, rfl⟩
