/-! THE CLASS: states kept. Rows laid by program (wip/p63/wk.py, wo.py, mk78.py). -/
def St.kt1 (S : St) (k : Nat) (f : Nat → Int) : Nat → Int := uZ (uZ (zcpy S.hy (zcpy S.hx (zcpy S.hs (zcpy S.ys (zcpy S.xs f 0 (361 * k) 40) 0 (361 * k + 40) 40) 0 (361 * k + 80) 40) 0 (361 * k + 120) 8) 0 (361 * k + 128) 8) (361 * k + 136) S.hn) (361 * k + 137) S.g
def St.kb (S : St) (k : Nat) (f : Nat → Int64) : Nat → Int64 := vp_updL (zcpy S.fx f 0 (41 * k) 40) (41 * k + 40) S.th
def St.kt (S : St) (k : Nat) (f : Nat → Int) : Nat → Int := zcpy S.co (uZ (S.kt1 k f) (361 * k + 138) S.tn) 0 (361 * k + 139) 222
theorem c_copyToP {pre post : pW} {b : Nat} (hb : pre.length = b) (S : St) {pn : Nat → Int} {pb : Nat → Int64} {pc : Int} {rn : Nat → Int} {rb : Nat → Int64} {rc : Int} {cl : Nat → Int} {k : Nat} (hk : k ≤ 20) : pRun 62 [.ref (b + 1 + 1), .ref (b + 1 + 35), .int (iI ((361 * k : Nat) : Int)), .ref (b + 1 + 36), .int (iI ((41 * k : Nat) : Int))] ((pre ++ oC (b + 1)) ++ (mB (b + 1) S ++ (oP (b + 1) pn pb pc rn rb rc cl ++ post))) none ((pre ++ oC (b + 1)) ++ (mB (b + 1) S ++ (oP (b + 1) (S.kt1 k pn) (S.kb k pb) pc rn rb rc cl ++ post))) := by
  refine qx_run ?_
  refine pc_run (lv := [(0, .ref (b + 1 + 1)), (1, .ref (b + 1 + 35)), (2, .int (iI ((361 * k : Nat) : Int))), (3, .ref (b + 1 + 36)), (4, .int (iI ((41 * k : Nat) : Int)))]) rfl ?_
  refine pe_go (pc := 0) rfl (s_aload_n rfl) ?_
  refine pe_go (pc := 1) rfl (s_getf (v := .ref (b + 1 + 2)) (gA (oC_len hb) (mB_1 _ _ _)) rfl) ?_
  refine pe_go (pc := 4) rfl (s_iconst (z := 0) rfl) ?_
  refine pe_go (pc := 5) rfl (s_aload_n rfl) ?_
  refine pe_go (pc := 6) rfl (s_iload_n rfl) ?_
  refine pe_go (pc := 7) rfl (s_bipush (z := 40) rfl) ?_
  refine pe_go rfl (s_copyI (f := S.xs) (g := pn) (sp := 0) (dp := (361 * k)) (n := 40) (w' := (pre ++ oC (b + 1)) ++ (mB (b + 1) S ++ (oP (b + 1) (zcpy S.xs pn 0 (361 * k) 40) pb pc rn rb rc cl ++ post))) (gA (oC_len hb) (mB_xs _ _ _)) (gA (oC_len hb) oX_pn) (by omega) (by omega) (by omega) (by omega) (by omega) (by decide) (by decide) rfl (gS (oC_len hb) oX_s_pn)) ?_
  refine pe_go (pc := 12) rfl (s_aload_n rfl) ?_
  refine pe_go (pc := 13) rfl (s_getf (v := .ref (b + 1 + 3)) (gA (oC_len hb) (mB_1 _ _ _)) rfl) ?_
  refine pe_go (pc := 16) rfl (s_iconst (z := 0) rfl) ?_
  refine pe_go (pc := 17) rfl (s_aload_n rfl) ?_
  refine pe_go (pc := 18) rfl (s_iload_n rfl) ?_
  refine pe_go (pc := 19) rfl (s_bipush (z := 40) rfl) ?_
  refine pe_go (pc := 21) rfl s_iadd ?_
  refine pe_go (pc := 22) rfl (s_bipush (z := 40) rfl) ?_
  refine pe_go rfl (s_copyI (f := S.ys) (g := zcpy S.xs pn 0 (361 * k) 40) (sp := 0) (dp := (361 * k) + 40) (n := 40) (w' := (pre ++ oC (b + 1)) ++ (mB (b + 1) S ++ (oP (b + 1) (zcpy S.ys (zcpy S.xs pn 0 (361 * k) 40) 0 ((361 * k) + 40) 40) pb pc rn rb rc cl ++ post))) (gA (oC_len hb) (mB_ys _ _ _)) (gA (oC_len hb) oX_pn) (by omega) (by omega) (by omega) (by omega) (by omega) (by decide) (by decide) rfl (gS (oC_len hb) oX_s_pn)) ?_
  refine pe_go (pc := 27) rfl (s_aload_n rfl) ?_
  refine pe_go (pc := 28) rfl (s_getf (v := .ref (b + 1 + 4)) (gA (oC_len hb) (mB_1 _ _ _)) rfl) ?_
  refine pe_go (pc := 31) rfl (s_iconst (z := 0) rfl) ?_
  refine pe_go (pc := 32) rfl (s_aload_n rfl) ?_
  refine pe_go (pc := 33) rfl (s_iload_n rfl) ?_
  refine pe_go (pc := 34) rfl (s_bipush (z := 80) rfl) ?_
  refine pe_go (pc := 36) rfl s_iadd ?_
  refine pe_go (pc := 37) rfl (s_bipush (z := 40) rfl) ?_
  refine pe_go rfl (s_copyI (f := S.hs) (g := zcpy S.ys (zcpy S.xs pn 0 (361 * k) 40) 0 ((361 * k) + 40) 40) (sp := 0) (dp := (361 * k) + 80) (n := 40) (w' := (pre ++ oC (b + 1)) ++ (mB (b + 1) S ++ (oP (b + 1) (zcpy S.hs (zcpy S.ys (zcpy S.xs pn 0 (361 * k) 40) 0 ((361 * k) + 40) 40) 0 ((361 * k) + 80) 40) pb pc rn rb rc cl ++ post))) (gA (oC_len hb) (mB_hs _ _ _)) (gA (oC_len hb) oX_pn) (by omega) (by omega) (by omega) (by omega) (by omega) (by decide) (by decide) rfl (gS (oC_len hb) oX_s_pn)) ?_
  refine pe_go (pc := 42) rfl (s_aload_n rfl) ?_
  refine pe_go (pc := 43) rfl (s_getf (v := .ref (b + 1 + 6)) (gA (oC_len hb) (mB_1 _ _ _)) rfl) ?_
  refine pe_go (pc := 46) rfl (s_iconst (z := 0) rfl) ?_
  refine pe_go (pc := 47) rfl (s_aload_n rfl) ?_
  refine pe_go (pc := 48) rfl (s_iload_n rfl) ?_
  refine pe_go (pc := 49) rfl (s_bipush (z := 120) rfl) ?_
  refine pe_go (pc := 51) rfl s_iadd ?_
  refine pe_go (pc := 52) rfl (s_bipush (z := 8) rfl) ?_
  refine pe_go rfl (s_copyI (f := S.hx) (g := zcpy S.hs (zcpy S.ys (zcpy S.xs pn 0 (361 * k) 40) 0 ((361 * k) + 40) 40) 0 ((361 * k) + 80) 40) (sp := 0) (dp := (361 * k) + 120) (n := 8) (w' := (pre ++ oC (b + 1)) ++ (mB (b + 1) S ++ (oP (b + 1) (zcpy S.hx (zcpy S.hs (zcpy S.ys (zcpy S.xs pn 0 (361 * k) 40) 0 ((361 * k) + 40) 40) 0 ((361 * k) + 80) 40) 0 ((361 * k) + 120) 8) pb pc rn rb rc cl ++ post))) (gA (oC_len hb) (mB_hx _ _ _)) (gA (oC_len hb) oX_pn) (by omega) (by omega) (by omega) (by omega) (by omega) (by decide) (by decide) rfl (gS (oC_len hb) oX_s_pn)) ?_
  refine pe_go (pc := 57) rfl (s_aload_n rfl) ?_
  refine pe_go (pc := 58) rfl (s_getf (v := .ref (b + 1 + 7)) (gA (oC_len hb) (mB_1 _ _ _)) rfl) ?_
  refine pe_go (pc := 61) rfl (s_iconst (z := 0) rfl) ?_
  refine pe_go (pc := 62) rfl (s_aload_n rfl) ?_
  refine pe_go (pc := 63) rfl (s_iload_n rfl) ?_
  refine pe_go (pc := 64) rfl (s_sipush (z := 128) rfl) ?_
  refine pe_go (pc := 67) rfl s_iadd ?_
  refine pe_go (pc := 68) rfl (s_bipush (z := 8) rfl) ?_
  refine pe_go rfl (s_copyI (f := S.hy) (g := zcpy S.hx (zcpy S.hs (zcpy S.ys (zcpy S.xs pn 0 (361 * k) 40) 0 ((361 * k) + 40) 40) 0 ((361 * k) + 80) 40) 0 ((361 * k) + 120) 8) (sp := 0) (dp := (361 * k) + 128) (n := 8) (w' := (pre ++ oC (b + 1)) ++ (mB (b + 1) S ++ (oP (b + 1) (zcpy S.hy (zcpy S.hx (zcpy S.hs (zcpy S.ys (zcpy S.xs pn 0 (361 * k) 40) 0 ((361 * k) + 40) 40) 0 ((361 * k) + 80) 40) 0 ((361 * k) + 120) 8) 0 ((361 * k) + 128) 8) pb pc rn rb rc cl ++ post))) (gA (oC_len hb) (mB_hy _ _ _)) (gA (oC_len hb) oX_pn) (by omega) (by omega) (by omega) (by omega) (by omega) (by decide) (by decide) rfl (gS (oC_len hb) oX_s_pn)) ?_
  refine pe_go (pc := 73) rfl (s_aload_n rfl) ?_
  refine pe_go (pc := 74) rfl (s_getf (v := .ref (b + 1 + 5)) (gA (oC_len hb) (mB_1 _ _ _)) rfl) ?_
  refine pe_go (pc := 77) rfl (s_iconst (z := 0) rfl) ?_
  refine pe_go (pc := 78) rfl (s_aload_n rfl) ?_
  refine pe_go (pc := 79) rfl (s_iload rfl) ?_
  refine pe_go (pc := 81) rfl (s_bipush (z := 40) rfl) ?_
  refine pe_go rfl (s_copyL (f := S.fx) (g := pb) (sp := 0) (dp := (41 * k)) (n := 40) (w' := (pre ++ oC (b + 1)) ++ (mB (b + 1) S ++ (oP (b + 1) (zcpy S.hy (zcpy S.hx (zcpy S.hs (zcpy S.ys (zcpy S.xs pn 0 (361 * k) 40) 0 ((361 * k) + 40) 40) 0 ((361 * k) + 80) 40) 0 ((361 * k) + 120) 8) 0 ((361 * k) + 128) 8) (zcpy S.fx pb 0 (41 * k) 40) pc rn rb rc cl ++ post))) (gA (oC_len hb) (mB_fx _ _ _)) (gA (oC_len hb) oX_pb) (by omega) (by omega) (by omega) (by omega) (by omega) (by decide) (by decide) rfl (gS (oC_len hb) oX_s_pb)) ?_
  refine pe_go (pc := 86) rfl (s_aload_n rfl) ?_
  refine pe_go (pc := 87) rfl (s_iload rfl) ?_
  refine pe_go (pc := 89) rfl (s_bipush (z := 40) rfl) ?_
  refine pe_go (pc := 91) rfl s_iadd ?_
  refine pe_go (pc := 92) rfl (s_aload_n rfl) ?_
  refine pe_go (pc := 93) rfl (s_getf (v := .long S.th) (gA (oC_len hb) (mB_1 _ _ _)) rfl) ?_
  refine pe_go (pc := 96) rfl (s_last (n := 861) (f := zcpy S.fx pb 0 (41 * k) 40) (w' := (pre ++ oC (b + 1)) ++ (mB (b + 1) S ++ (oP (b + 1) (zcpy S.hy (zcpy S.hx (zcpy S.hs (zcpy S.ys (zcpy S.xs pn 0 (361 * k) 40) 0 ((361 * k) + 40) 40) 0 ((361 * k) + 80) 40) 0 ((361 * k) + 120) 8) 0 ((361 * k) + 128) 8) (vp_updL (zcpy S.fx pb 0 (41 * k) 40) ((41 * k) + 40) S.th) pc rn rb rc cl ++ post))) (gA (oC_len hb) oX_pb) (k := (41 * k) + 40) (by omega) (by omega) (by decide) (gS (oC_len hb) oX_s_pb)) ?_
  refine pe_go (pc := 97) rfl (s_aload_n rfl) ?_
  refine pe_go (pc := 98) rfl (s_iload_n rfl) ?_
  refine pe_go (pc := 99) rfl (s_sipush (z := 136) rfl) ?_
  refine pe_go (pc := 102) rfl s_iadd ?_
  refine pe_go (pc := 103) rfl (s_aload_n rfl) ?_
  refine pe_go (pc := 104) rfl (s_getf (v := .int (iI S.hn)) (gA (oC_len hb) (mB_1 _ _ _)) rfl) ?_
  refine pe_go (pc := 107) rfl (s_iast (n := 7581) (f := zcpy S.hy (zcpy S.hx (zcpy S.hs (zcpy S.ys (zcpy S.xs pn 0 (361 * k) 40) 0 ((361 * k) + 40) 40) 0 ((361 * k) + 80) 40) 0 ((361 * k) + 120) 8) 0 ((361 * k) + 128) 8) (w' := (pre ++ oC (b + 1)) ++ (mB (b + 1) S ++ (oP (b + 1) (uZ (zcpy S.hy (zcpy S.hx (zcpy S.hs (zcpy S.ys (zcpy S.xs pn 0 (361 * k) 40) 0 ((361 * k) + 40) 40) 0 ((361 * k) + 80) 40) 0 ((361 * k) + 120) 8) 0 ((361 * k) + 128) 8) ((361 * k) + 136) S.hn) (vp_updL (zcpy S.fx pb 0 (41 * k) 40) ((41 * k) + 40) S.th) pc rn rb rc cl ++ post))) (gA (oC_len hb) oX_pn) (k := (361 * k) + 136) (by omega) (by omega) (by decide) (gS (oC_len hb) oX_s_pn)) ?_
  refine pe_go (pc := 108) rfl (s_aload_n rfl) ?_
  refine pe_go (pc := 109) rfl (s_iload_n rfl) ?_
  refine pe_go (pc := 110) rfl (s_sipush (z := 137) rfl) ?_
  refine pe_go (pc := 113) rfl s_iadd ?_
  refine pe_go (pc := 114) rfl (s_aload_n rfl) ?_
  refine pe_go (pc := 115) rfl (s_getf (v := .int (iI S.g)) (gA (oC_len hb) (mB_1 _ _ _)) rfl) ?_
  refine pe_go (pc := 118) rfl (s_iast (n := 7581) (f := uZ (zcpy S.hy (zcpy S.hx (zcpy S.hs (zcpy S.ys (zcpy S.xs pn 0 (361 * k) 40) 0 ((361 * k) + 40) 40) 0 ((361 * k) + 80) 40) 0 ((361 * k) + 120) 8) 0 ((361 * k) + 128) 8) ((361 * k) + 136) S.hn) (w' := (pre ++ oC (b + 1)) ++ (mB (b + 1) S ++ (oP (b + 1) (uZ (uZ (zcpy S.hy (zcpy S.hx (zcpy S.hs (zcpy S.ys (zcpy S.xs pn 0 (361 * k) 40) 0 ((361 * k) + 40) 40) 0 ((361 * k) + 80) 40) 0 ((361 * k) + 120) 8) 0 ((361 * k) + 128) 8) ((361 * k) + 136) S.hn) ((361 * k) + 137) S.g) (vp_updL (zcpy S.fx pb 0 (41 * k) 40) ((41 * k) + 40) S.th) pc rn rb rc cl ++ post))) (gA (oC_len hb) oX_pn) (k := (361 * k) + 137) (by omega) (by omega) (by decide) (gS (oC_len hb) oX_s_pn)) ?_
  exact pe_ret rfl s_retv ⟨rfl, rfl⟩
theorem c_copyToQ {pre post : pW} {b : Nat} (hb : pre.length = b) (S : St) {pn : Nat → Int} {pb : Nat → Int64} {pc : Int} {rn : Nat → Int} {rb : Nat → Int64} {rc : Int} {cl : Nat → Int} {k : Nat} (hk : k ≤ 20) : pRun 62 [.ref (b + 1 + 1), .ref (b + 1 + 38), .int (iI ((361 * k : Nat) : Int)), .ref (b + 1 + 39), .int (iI ((41 * k : Nat) : Int))] ((pre ++ oC (b + 1)) ++ (mB (b + 1) S ++ (oP (b + 1) pn pb pc rn rb rc cl ++ post))) none ((pre ++ oC (b + 1)) ++ (mB (b + 1) S ++ (oP (b + 1) pn pb pc (S.kt1 k rn) (S.kb k rb) rc cl ++ post))) := by
  refine qx_run ?_
  refine pc_run (lv := [(0, .ref (b + 1 + 1)), (1, .ref (b + 1 + 38)), (2, .int (iI ((361 * k : Nat) : Int))), (3, .ref (b + 1 + 39)), (4, .int (iI ((41 * k : Nat) : Int)))]) rfl ?_
  refine pe_go (pc := 0) rfl (s_aload_n rfl) ?_
  refine pe_go (pc := 1) rfl (s_getf (v := .ref (b + 1 + 2)) (gA (oC_len hb) (mB_1 _ _ _)) rfl) ?_
  refine pe_go (pc := 4) rfl (s_iconst (z := 0) rfl) ?_
  refine pe_go (pc := 5) rfl (s_aload_n rfl) ?_
  refine pe_go (pc := 6) rfl (s_iload_n rfl) ?_
  refine pe_go (pc := 7) rfl (s_bipush (z := 40) rfl) ?_
  refine pe_go rfl (s_copyI (f := S.xs) (g := rn) (sp := 0) (dp := (361 * k)) (n := 40) (w' := (pre ++ oC (b + 1)) ++ (mB (b + 1) S ++ (oP (b + 1) pn pb pc (zcpy S.xs rn 0 (361 * k) 40) rb rc cl ++ post))) (gA (oC_len hb) (mB_xs _ _ _)) (gA (oC_len hb) oX_rn) (by omega) (by omega) (by omega) (by omega) (by omega) (by decide) (by decide) rfl (gS (oC_len hb) oX_s_rn)) ?_
  refine pe_go (pc := 12) rfl (s_aload_n rfl) ?_
  refine pe_go (pc := 13) rfl (s_getf (v := .ref (b + 1 + 3)) (gA (oC_len hb) (mB_1 _ _ _)) rfl) ?_
  refine pe_go (pc := 16) rfl (s_iconst (z := 0) rfl) ?_
  refine pe_go (pc := 17) rfl (s_aload_n rfl) ?_
  refine pe_go (pc := 18) rfl (s_iload_n rfl) ?_
  refine pe_go (pc := 19) rfl (s_bipush (z := 40) rfl) ?_
  refine pe_go (pc := 21) rfl s_iadd ?_
  refine pe_go (pc := 22) rfl (s_bipush (z := 40) rfl) ?_
  refine pe_go rfl (s_copyI (f := S.ys) (g := zcpy S.xs rn 0 (361 * k) 40) (sp := 0) (dp := (361 * k) + 40) (n := 40) (w' := (pre ++ oC (b + 1)) ++ (mB (b + 1) S ++ (oP (b + 1) pn pb pc (zcpy S.ys (zcpy S.xs rn 0 (361 * k) 40) 0 ((361 * k) + 40) 40) rb rc cl ++ post))) (gA (oC_len hb) (mB_ys _ _ _)) (gA (oC_len hb) oX_rn) (by omega) (by omega) (by omega) (by omega) (by omega) (by decide) (by decide) rfl (gS (oC_len hb) oX_s_rn)) ?_
  refine pe_go (pc := 27) rfl (s_aload_n rfl) ?_
  refine pe_go (pc := 28) rfl (s_getf (v := .ref (b + 1 + 4)) (gA (oC_len hb) (mB_1 _ _ _)) rfl) ?_
  refine pe_go (pc := 31) rfl (s_iconst (z := 0) rfl) ?_
  refine pe_go (pc := 32) rfl (s_aload_n rfl) ?_
  refine pe_go (pc := 33) rfl (s_iload_n rfl) ?_
  refine pe_go (pc := 34) rfl (s_bipush (z := 80) rfl) ?_
  refine pe_go (pc := 36) rfl s_iadd ?_
  refine pe_go (pc := 37) rfl (s_bipush (z := 40) rfl) ?_
  refine pe_go rfl (s_copyI (f := S.hs) (g := zcpy S.ys (zcpy S.xs rn 0 (361 * k) 40) 0 ((361 * k) + 40) 40) (sp := 0) (dp := (361 * k) + 80) (n := 40) (w' := (pre ++ oC (b + 1)) ++ (mB (b + 1) S ++ (oP (b + 1) pn pb pc (zcpy S.hs (zcpy S.ys (zcpy S.xs rn 0 (361 * k) 40) 0 ((361 * k) + 40) 40) 0 ((361 * k) + 80) 40) rb rc cl ++ post))) (gA (oC_len hb) (mB_hs _ _ _)) (gA (oC_len hb) oX_rn) (by omega) (by omega) (by omega) (by omega) (by omega) (by decide) (by decide) rfl (gS (oC_len hb) oX_s_rn)) ?_
  refine pe_go (pc := 42) rfl (s_aload_n rfl) ?_
  refine pe_go (pc := 43) rfl (s_getf (v := .ref (b + 1 + 6)) (gA (oC_len hb) (mB_1 _ _ _)) rfl) ?_
  refine pe_go (pc := 46) rfl (s_iconst (z := 0) rfl) ?_
  refine pe_go (pc := 47) rfl (s_aload_n rfl) ?_
  refine pe_go (pc := 48) rfl (s_iload_n rfl) ?_
  refine pe_go (pc := 49) rfl (s_bipush (z := 120) rfl) ?_
  refine pe_go (pc := 51) rfl s_iadd ?_
  refine pe_go (pc := 52) rfl (s_bipush (z := 8) rfl) ?_
  refine pe_go rfl (s_copyI (f := S.hx) (g := zcpy S.hs (zcpy S.ys (zcpy S.xs rn 0 (361 * k) 40) 0 ((361 * k) + 40) 40) 0 ((361 * k) + 80) 40) (sp := 0) (dp := (361 * k) + 120) (n := 8) (w' := (pre ++ oC (b + 1)) ++ (mB (b + 1) S ++ (oP (b + 1) pn pb pc (zcpy S.hx (zcpy S.hs (zcpy S.ys (zcpy S.xs rn 0 (361 * k) 40) 0 ((361 * k) + 40) 40) 0 ((361 * k) + 80) 40) 0 ((361 * k) + 120) 8) rb rc cl ++ post))) (gA (oC_len hb) (mB_hx _ _ _)) (gA (oC_len hb) oX_rn) (by omega) (by omega) (by omega) (by omega) (by omega) (by decide) (by decide) rfl (gS (oC_len hb) oX_s_rn)) ?_
  refine pe_go (pc := 57) rfl (s_aload_n rfl) ?_
  refine pe_go (pc := 58) rfl (s_getf (v := .ref (b + 1 + 7)) (gA (oC_len hb) (mB_1 _ _ _)) rfl) ?_
  refine pe_go (pc := 61) rfl (s_iconst (z := 0) rfl) ?_
  refine pe_go (pc := 62) rfl (s_aload_n rfl) ?_
  refine pe_go (pc := 63) rfl (s_iload_n rfl) ?_
  refine pe_go (pc := 64) rfl (s_sipush (z := 128) rfl) ?_
  refine pe_go (pc := 67) rfl s_iadd ?_
  refine pe_go (pc := 68) rfl (s_bipush (z := 8) rfl) ?_
  refine pe_go rfl (s_copyI (f := S.hy) (g := zcpy S.hx (zcpy S.hs (zcpy S.ys (zcpy S.xs rn 0 (361 * k) 40) 0 ((361 * k) + 40) 40) 0 ((361 * k) + 80) 40) 0 ((361 * k) + 120) 8) (sp := 0) (dp := (361 * k) + 128) (n := 8) (w' := (pre ++ oC (b + 1)) ++ (mB (b + 1) S ++ (oP (b + 1) pn pb pc (zcpy S.hy (zcpy S.hx (zcpy S.hs (zcpy S.ys (zcpy S.xs rn 0 (361 * k) 40) 0 ((361 * k) + 40) 40) 0 ((361 * k) + 80) 40) 0 ((361 * k) + 120) 8) 0 ((361 * k) + 128) 8) rb rc cl ++ post))) (gA (oC_len hb) (mB_hy _ _ _)) (gA (oC_len hb) oX_rn) (by omega) (by omega) (by omega) (by omega) (by omega) (by decide) (by decide) rfl (gS (oC_len hb) oX_s_rn)) ?_
  refine pe_go (pc := 73) rfl (s_aload_n rfl) ?_
  refine pe_go (pc := 74) rfl (s_getf (v := .ref (b + 1 + 5)) (gA (oC_len hb) (mB_1 _ _ _)) rfl) ?_
  refine pe_go (pc := 77) rfl (s_iconst (z := 0) rfl) ?_
  refine pe_go (pc := 78) rfl (s_aload_n rfl) ?_
  refine pe_go (pc := 79) rfl (s_iload rfl) ?_
  refine pe_go (pc := 81) rfl (s_bipush (z := 40) rfl) ?_
  refine pe_go rfl (s_copyL (f := S.fx) (g := rb) (sp := 0) (dp := (41 * k)) (n := 40) (w' := (pre ++ oC (b + 1)) ++ (mB (b + 1) S ++ (oP (b + 1) pn pb pc (zcpy S.hy (zcpy S.hx (zcpy S.hs (zcpy S.ys (zcpy S.xs rn 0 (361 * k) 40) 0 ((361 * k) + 40) 40) 0 ((361 * k) + 80) 40) 0 ((361 * k) + 120) 8) 0 ((361 * k) + 128) 8) (zcpy S.fx rb 0 (41 * k) 40) rc cl ++ post))) (gA (oC_len hb) (mB_fx _ _ _)) (gA (oC_len hb) oX_rb) (by omega) (by omega) (by omega) (by omega) (by omega) (by decide) (by decide) rfl (gS (oC_len hb) oX_s_rb)) ?_
  refine pe_go (pc := 86) rfl (s_aload_n rfl) ?_
  refine pe_go (pc := 87) rfl (s_iload rfl) ?_
  refine pe_go (pc := 89) rfl (s_bipush (z := 40) rfl) ?_
  refine pe_go (pc := 91) rfl s_iadd ?_
  refine pe_go (pc := 92) rfl (s_aload_n rfl) ?_
  refine pe_go (pc := 93) rfl (s_getf (v := .long S.th) (gA (oC_len hb) (mB_1 _ _ _)) rfl) ?_
  refine pe_go (pc := 96) rfl (s_last (n := 861) (f := zcpy S.fx rb 0 (41 * k) 40) (w' := (pre ++ oC (b + 1)) ++ (mB (b + 1) S ++ (oP (b + 1) pn pb pc (zcpy S.hy (zcpy S.hx (zcpy S.hs (zcpy S.ys (zcpy S.xs rn 0 (361 * k) 40) 0 ((361 * k) + 40) 40) 0 ((361 * k) + 80) 40) 0 ((361 * k) + 120) 8) 0 ((361 * k) + 128) 8) (vp_updL (zcpy S.fx rb 0 (41 * k) 40) ((41 * k) + 40) S.th) rc cl ++ post))) (gA (oC_len hb) oX_rb) (k := (41 * k) + 40) (by omega) (by omega) (by decide) (gS (oC_len hb) oX_s_rb)) ?_
  refine pe_go (pc := 97) rfl (s_aload_n rfl) ?_
  refine pe_go (pc := 98) rfl (s_iload_n rfl) ?_
  refine pe_go (pc := 99) rfl (s_sipush (z := 136) rfl) ?_
  refine pe_go (pc := 102) rfl s_iadd ?_
  refine pe_go (pc := 103) rfl (s_aload_n rfl) ?_
  refine pe_go (pc := 104) rfl (s_getf (v := .int (iI S.hn)) (gA (oC_len hb) (mB_1 _ _ _)) rfl) ?_
  refine pe_go (pc := 107) rfl (s_iast (n := 7581) (f := zcpy S.hy (zcpy S.hx (zcpy S.hs (zcpy S.ys (zcpy S.xs rn 0 (361 * k) 40) 0 ((361 * k) + 40) 40) 0 ((361 * k) + 80) 40) 0 ((361 * k) + 120) 8) 0 ((361 * k) + 128) 8) (w' := (pre ++ oC (b + 1)) ++ (mB (b + 1) S ++ (oP (b + 1) pn pb pc (uZ (zcpy S.hy (zcpy S.hx (zcpy S.hs (zcpy S.ys (zcpy S.xs rn 0 (361 * k) 40) 0 ((361 * k) + 40) 40) 0 ((361 * k) + 80) 40) 0 ((361 * k) + 120) 8) 0 ((361 * k) + 128) 8) ((361 * k) + 136) S.hn) (vp_updL (zcpy S.fx rb 0 (41 * k) 40) ((41 * k) + 40) S.th) rc cl ++ post))) (gA (oC_len hb) oX_rn) (k := (361 * k) + 136) (by omega) (by omega) (by decide) (gS (oC_len hb) oX_s_rn)) ?_
  refine pe_go (pc := 108) rfl (s_aload_n rfl) ?_
  refine pe_go (pc := 109) rfl (s_iload_n rfl) ?_
  refine pe_go (pc := 110) rfl (s_sipush (z := 137) rfl) ?_
  refine pe_go (pc := 113) rfl s_iadd ?_
  refine pe_go (pc := 114) rfl (s_aload_n rfl) ?_
  refine pe_go (pc := 115) rfl (s_getf (v := .int (iI S.g)) (gA (oC_len hb) (mB_1 _ _ _)) rfl) ?_
  refine pe_go (pc := 118) rfl (s_iast (n := 7581) (f := uZ (zcpy S.hy (zcpy S.hx (zcpy S.hs (zcpy S.ys (zcpy S.xs rn 0 (361 * k) 40) 0 ((361 * k) + 40) 40) 0 ((361 * k) + 80) 40) 0 ((361 * k) + 120) 8) 0 ((361 * k) + 128) 8) ((361 * k) + 136) S.hn) (w' := (pre ++ oC (b + 1)) ++ (mB (b + 1) S ++ (oP (b + 1) pn pb pc (uZ (uZ (zcpy S.hy (zcpy S.hx (zcpy S.hs (zcpy S.ys (zcpy S.xs rn 0 (361 * k) 40) 0 ((361 * k) + 40) 40) 0 ((361 * k) + 80) 40) 0 ((361 * k) + 120) 8) 0 ((361 * k) + 128) 8) ((361 * k) + 136) S.hn) ((361 * k) + 137) S.g) (vp_updL (zcpy S.fx rb 0 (41 * k) 40) ((41 * k) + 40) S.th) rc cl ++ post))) (gA (oC_len hb) oX_rn) (k := (361 * k) + 137) (by omega) (by omega) (by decide) (gS (oC_len hb) oX_s_rn)) ?_
  exact pe_ret rfl s_retv ⟨rfl, rfl⟩
theorem c_keepTopP {pre post : pW} {b : Nat} (hb : pre.length = b) (S : St) {pn : Nat → Int} {pb : Nat → Int64} {rn : Nat → Int} {rb : Nat → Int64} {rc : Int} {cl : Nat → Int} {k : Nat} (hk : k ≤ 20) : pRun 54 [.ref (b + 1 + 34), .ref (b + 1)] ((pre ++ oC (b + 1)) ++ (mB (b + 1) S ++ (oP (b + 1) pn pb (k : Int) rn rb rc cl ++ post))) none ((pre ++ oC (b + 1)) ++ (mB (b + 1) S ++ (oP (b + 1) (S.kt k pn) (S.kb k pb) (k : Int) rn rb rc cl ++ post))) := by
  refine qx_run ?_
  refine pc_run (lv := [(0, .ref (b + 1 + 34)), (1, .ref (b + 1))]) rfl ?_
  refine pe_go (pc := 0) rfl (s_aload_n rfl) ?_
  refine pe_go (pc := 1) rfl (s_getf (v := .int (iI (k : Int))) (gA (oC_len hb) oX_P) rfl) ?_
  refine pe_go (pc := 4) rfl (s_sipush (z := 361) rfl) ?_
  refine pe_go (pc := 7) rfl s_imul ?_
  rw [show (k : Int) * 361 = ((361 * k : Nat) : Int) by omega]
  refine pe_go (pc := 8) rfl (s_istore_n (lv' := [(2, .int (iI ((361 * k : Nat) : Int))), (0, .ref (b + 1 + 34)), (1, .ref (b + 1))]) rfl) ?_
  refine pe_go (pc := 9) rfl (s_aload_n rfl) ?_
  refine pe_go (pc := 10) rfl (s_getf (v := .ref (b + 1 + 1)) (gA0 (oC_len hb) (mB_0 _ _ _)) rfl) ?_
  refine pe_go (pc := 13) rfl (s_aload_n rfl) ?_
  refine pe_go (pc := 14) rfl (s_getf (v := .ref (b + 1 + 35)) (gA (oC_len hb) oX_P) rfl) ?_
  refine pe_go (pc := 17) rfl (s_iload_n rfl) ?_
  refine pe_go (pc := 18) rfl (s_aload_n rfl) ?_
  refine pe_go (pc := 19) rfl (s_getf (v := .ref (b + 1 + 36)) (gA (oC_len hb) oX_P) rfl) ?_
  refine pe_go (pc := 22) rfl (s_aload_n rfl) ?_
  refine pe_go (pc := 23) rfl (s_getf (v := .int (iI (k : Int))) (gA (oC_len hb) oX_P) rfl) ?_
  refine pe_go (pc := 26) rfl (s_bipush (z := 41) rfl) ?_
  refine pe_go (pc := 28) rfl s_imul ?_
  rw [show (k : Int) * 41 = ((41 * k : Nat) : Int) by omega]
  refine pe_call rfl (s_invV rfl (gA (oC_len hb) (mB_1 _ _ _)) rfl rfl) (c_copyToP hb S hk) ?_
  refine pe_go (pc := 32) rfl (s_aload_n rfl) ?_
  refine pe_go (pc := 33) rfl (s_getf (v := .ref (b + 1 + 35)) (gA (oC_len hb) oX_P) rfl) ?_
  refine pe_go (pc := 36) rfl (s_iload_n rfl) ?_
  refine pe_go (pc := 37) rfl (s_sipush (z := 138) rfl) ?_
  refine pe_go (pc := 40) rfl s_iadd ?_
  refine pe_go (pc := 41) rfl (s_aload_n rfl) ?_
  refine pe_go (pc := 42) rfl (s_getf (v := .int (iI S.tn)) (gA0 (oC_len hb) (mB_0 _ _ _)) rfl) ?_
  refine pe_go (pc := 45) rfl (s_iast (n := 7581) (f := S.kt1 k pn) (w' := (pre ++ oC (b + 1)) ++ (mB (b + 1) S ++ (oP (b + 1) (uZ (S.kt1 k pn) ((361 * k) + 138) S.tn) (S.kb k pb) (k : Int) rn rb rc cl ++ post))) (gA (oC_len hb) oX_pn) (k := (361 * k) + 138) (by omega) (by omega) (by decide) (gS (oC_len hb) oX_s_pn)) ?_
  refine pe_go (pc := 46) rfl (s_aload_n rfl) ?_
  refine pe_go (pc := 47) rfl (s_getf (v := .ref (b + 1 + 10)) (gA0 (oC_len hb) (mB_0 _ _ _)) rfl) ?_
  refine pe_go (pc := 50) rfl (s_iconst (z := 0) rfl) ?_
  refine pe_go (pc := 51) rfl (s_aload_n rfl) ?_
  refine pe_go (pc := 52) rfl (s_getf (v := .ref (b + 1 + 35)) (gA (oC_len hb) oX_P) rfl) ?_
  refine pe_go (pc := 55) rfl (s_iload_n rfl) ?_
  refine pe_go (pc := 56) rfl (s_sipush (z := 139) rfl) ?_
  refine pe_go (pc := 59) rfl s_iadd ?_
  refine pe_go (pc := 60) rfl (s_sipush (z := 222) rfl) ?_
  refine pe_go rfl (s_copyI (f := S.co) (g := uZ (S.kt1 k pn) ((361 * k) + 138) S.tn) (sp := 0) (dp := (361 * k) + 139) (n := 222) (w' := (pre ++ oC (b + 1)) ++ (mB (b + 1) S ++ (oP (b + 1) (zcpy S.co (uZ (S.kt1 k pn) ((361 * k) + 138) S.tn) 0 ((361 * k) + 139) 222) (S.kb k pb) (k : Int) rn rb rc cl ++ post))) (gA (oC_len hb) (mB_co _ _ _)) (gA (oC_len hb) oX_pn) (by omega) (by omega) (by omega) (by omega) (by omega) (by decide) (by decide) rfl (gS (oC_len hb) oX_s_pn)) ?_
  exact pe_ret rfl s_retv ⟨rfl, rfl⟩
theorem c_keepTopQ {pre post : pW} {b : Nat} (hb : pre.length = b) (S : St) {pn : Nat → Int} {pb : Nat → Int64} {pc : Int} {rn : Nat → Int} {rb : Nat → Int64} {cl : Nat → Int} {k : Nat} (hk : k ≤ 20) : pRun 54 [.ref (b + 1 + 37), .ref (b + 1)] ((pre ++ oC (b + 1)) ++ (mB (b + 1) S ++ (oP (b + 1) pn pb pc rn rb (k : Int) cl ++ post))) none ((pre ++ oC (b + 1)) ++ (mB (b + 1) S ++ (oP (b + 1) pn pb pc (S.kt k rn) (S.kb k rb) (k : Int) cl ++ post))) := by
  refine qx_run ?_
  refine pc_run (lv := [(0, .ref (b + 1 + 37)), (1, .ref (b + 1))]) rfl ?_
  refine pe_go (pc := 0) rfl (s_aload_n rfl) ?_
  refine pe_go (pc := 1) rfl (s_getf (v := .int (iI (k : Int))) (gA (oC_len hb) oX_Q) rfl) ?_
  refine pe_go (pc := 4) rfl (s_sipush (z := 361) rfl) ?_
  refine pe_go (pc := 7) rfl s_imul ?_
  rw [show (k : Int) * 361 = ((361 * k : Nat) : Int) by omega]
  refine pe_go (pc := 8) rfl (s_istore_n (lv' := [(2, .int (iI ((361 * k : Nat) : Int))), (0, .ref (b + 1 + 37)), (1, .ref (b + 1))]) rfl) ?_
  refine pe_go (pc := 9) rfl (s_aload_n rfl) ?_
  refine pe_go (pc := 10) rfl (s_getf (v := .ref (b + 1 + 1)) (gA0 (oC_len hb) (mB_0 _ _ _)) rfl) ?_
  refine pe_go (pc := 13) rfl (s_aload_n rfl) ?_
  refine pe_go (pc := 14) rfl (s_getf (v := .ref (b + 1 + 38)) (gA (oC_len hb) oX_Q) rfl) ?_
  refine pe_go (pc := 17) rfl (s_iload_n rfl) ?_
  refine pe_go (pc := 18) rfl (s_aload_n rfl) ?_
  refine pe_go (pc := 19) rfl (s_getf (v := .ref (b + 1 + 39)) (gA (oC_len hb) oX_Q) rfl) ?_
  refine pe_go (pc := 22) rfl (s_aload_n rfl) ?_
  refine pe_go (pc := 23) rfl (s_getf (v := .int (iI (k : Int))) (gA (oC_len hb) oX_Q) rfl) ?_
  refine pe_go (pc := 26) rfl (s_bipush (z := 41) rfl) ?_
  refine pe_go (pc := 28) rfl s_imul ?_
  rw [show (k : Int) * 41 = ((41 * k : Nat) : Int) by omega]
  refine pe_call rfl (s_invV rfl (gA (oC_len hb) (mB_1 _ _ _)) rfl rfl) (c_copyToQ hb S hk) ?_
  refine pe_go (pc := 32) rfl (s_aload_n rfl) ?_
  refine pe_go (pc := 33) rfl (s_getf (v := .ref (b + 1 + 38)) (gA (oC_len hb) oX_Q) rfl) ?_
  refine pe_go (pc := 36) rfl (s_iload_n rfl) ?_
  refine pe_go (pc := 37) rfl (s_sipush (z := 138) rfl) ?_
  refine pe_go (pc := 40) rfl s_iadd ?_
  refine pe_go (pc := 41) rfl (s_aload_n rfl) ?_
  refine pe_go (pc := 42) rfl (s_getf (v := .int (iI S.tn)) (gA0 (oC_len hb) (mB_0 _ _ _)) rfl) ?_
  refine pe_go (pc := 45) rfl (s_iast (n := 7581) (f := S.kt1 k rn) (w' := (pre ++ oC (b + 1)) ++ (mB (b + 1) S ++ (oP (b + 1) pn pb pc (uZ (S.kt1 k rn) ((361 * k) + 138) S.tn) (S.kb k rb) (k : Int) cl ++ post))) (gA (oC_len hb) oX_rn) (k := (361 * k) + 138) (by omega) (by omega) (by decide) (gS (oC_len hb) oX_s_rn)) ?_
  refine pe_go (pc := 46) rfl (s_aload_n rfl) ?_
  refine pe_go (pc := 47) rfl (s_getf (v := .ref (b + 1 + 10)) (gA0 (oC_len hb) (mB_0 _ _ _)) rfl) ?_
  refine pe_go (pc := 50) rfl (s_iconst (z := 0) rfl) ?_
  refine pe_go (pc := 51) rfl (s_aload_n rfl) ?_
  refine pe_go (pc := 52) rfl (s_getf (v := .ref (b + 1 + 38)) (gA (oC_len hb) oX_Q) rfl) ?_
  refine pe_go (pc := 55) rfl (s_iload_n rfl) ?_
  refine pe_go (pc := 56) rfl (s_sipush (z := 139) rfl) ?_
  refine pe_go (pc := 59) rfl s_iadd ?_
  refine pe_go (pc := 60) rfl (s_sipush (z := 222) rfl) ?_
  refine pe_go rfl (s_copyI (f := S.co) (g := uZ (S.kt1 k rn) ((361 * k) + 138) S.tn) (sp := 0) (dp := (361 * k) + 139) (n := 222) (w' := (pre ++ oC (b + 1)) ++ (mB (b + 1) S ++ (oP (b + 1) pn pb pc (zcpy S.co (uZ (S.kt1 k rn) ((361 * k) + 138) S.tn) 0 ((361 * k) + 139) 222) (S.kb k rb) (k : Int) cl ++ post))) (gA (oC_len hb) (mB_co _ _ _)) (gA (oC_len hb) oX_rn) (by omega) (by omega) (by omega) (by omega) (by omega) (by decide) (by decide) rfl (gS (oC_len hb) oX_s_rn)) ?_
  exact pe_ret rfl s_retv ⟨rfl, rfl⟩
theorem c_forget {pre post : pW} {b : Nat} (hb : pre.length = b) (S : St) {pn : Nat → Int} {pb : Nat → Int64} {pc : Int} {rn : Nat → Int} {rb : Nat → Int64} {rc : Int} {cl : Nat → Int}  : pRun 52 [.ref (b + 1 + 34)] ((pre ++ oC (b + 1)) ++ (mB (b + 1) S ++ (oP (b + 1) pn pb pc rn rb rc cl ++ post))) none ((pre ++ oC (b + 1)) ++ (mB (b + 1) S ++ (oP (b + 1) (zcpy pn pn 361 0 6859) (zcpy pb pb 41 0 779) 19 rn rb rc cl ++ post))) := by
  refine qx_run ?_
  refine pc_run (lv := [(0, .ref (b + 1 + 34))]) rfl ?_
  refine pe_go (pc := 0) rfl (s_aload_n rfl) ?_
  refine pe_go (pc := 1) rfl (s_getf (v := .ref (b + 1 + 35)) (gA (oC_len hb) oX_P) rfl) ?_
  refine pe_go (pc := 4) rfl (s_sipush (z := 361) rfl) ?_
  refine pe_go (pc := 7) rfl (s_aload_n rfl) ?_
  refine pe_go (pc := 8) rfl (s_getf (v := .ref (b + 1 + 35)) (gA (oC_len hb) oX_P) rfl) ?_
  refine pe_go (pc := 11) rfl (s_iconst (z := 0) rfl) ?_
  refine pe_go (pc := 12) rfl (s_sipush (z := 6859) rfl) ?_
  refine pe_go rfl (s_copyI (f := pn) (g := pn) (sp := 361) (dp := 0) (n := 6859) (w' := (pre ++ oC (b + 1)) ++ (mB (b + 1) S ++ (oP (b + 1) (zcpy pn pn 361 0 6859) pb pc rn rb rc cl ++ post))) (gA (oC_len hb) oX_pn) (gA (oC_len hb) oX_pn) (by omega) (by omega) (by omega) (by omega) (by omega) (by decide) (by decide) rfl (gS (oC_len hb) oX_s_pn)) ?_
  refine pe_go (pc := 18) rfl (s_aload_n rfl) ?_
  refine pe_go (pc := 19) rfl (s_getf (v := .ref (b + 1 + 36)) (gA (oC_len hb) oX_P) rfl) ?_
  refine pe_go (pc := 22) rfl (s_bipush (z := 41) rfl) ?_
  refine pe_go (pc := 24) rfl (s_aload_n rfl) ?_
  refine pe_go (pc := 25) rfl (s_getf (v := .ref (b + 1 + 36)) (gA (oC_len hb) oX_P) rfl) ?_
  refine pe_go (pc := 28) rfl (s_iconst (z := 0) rfl) ?_
  refine pe_go (pc := 29) rfl (s_sipush (z := 779) rfl) ?_
  refine pe_go rfl (s_copyL (f := pb) (g := pb) (sp := 41) (dp := 0) (n := 779) (w' := (pre ++ oC (b + 1)) ++ (mB (b + 1) S ++ (oP (b + 1) (zcpy pn pn 361 0 6859) (zcpy pb pb 41 0 779) pc rn rb rc cl ++ post))) (gA (oC_len hb) oX_pb) (gA (oC_len hb) oX_pb) (by omega) (by omega) (by omega) (by omega) (by omega) (by decide) (by decide) rfl (gS (oC_len hb) oX_s_pb)) ?_
  refine pe_go (pc := 35) rfl (s_aload_n rfl) ?_
  refine pe_go (pc := 36) rfl (s_bipush (z := 19) rfl) ?_
  refine pe_go (pc := 38) rfl (s_putf (w' := (pre ++ oC (b + 1)) ++ (mB (b + 1) S ++ (oP (b + 1) (zcpy pn pn 361 0 6859) (zcpy pb pb 41 0 779) 19 rn rb rc cl ++ post))) (gA (oC_len hb) oX_P) (Nat.le_of_ble_eq_true rfl) rfl (gS (oC_len hb) oX_s_pc)) ?_
  exact pe_ret rfl s_retv ⟨rfl, rfl⟩
def St.pshN (S : St) (k : Nat) (f : Nat → Int) : Nat → Int := if k < 20 then S.kt k f else S.kt 19 (zcpy f f 361 0 6859)
def St.pshB (S : St) (k : Nat) (f : Nat → Int64) : Nat → Int64 := if k < 20 then S.kb k f else S.kb 19 (zcpy f f 41 0 779)
def pshC (k : Nat) : Nat := if k < 20 then k + 1 else 20
theorem c_push {pre post : pW} {b : Nat} (hb : pre.length = b) (S : St) {pn : Nat → Int} {pb : Nat → Int64} {rn : Nat → Int} {rb : Nat → Int64} {rc : Int} {cl : Nat → Int} {k : Nat} (hk : k ≤ 20) : pRun 51 [.ref (b + 1 + 34), .ref (b + 1)] ((pre ++ oC (b + 1)) ++ (mB (b + 1) S ++ (oP (b + 1) pn pb (k : Int) rn rb rc cl ++ post))) none ((pre ++ oC (b + 1)) ++ (mB (b + 1) S ++ (oP (b + 1) (S.pshN k pn) (S.pshB k pb) (pshC k : Int) rn rb rc cl ++ post))) := by
  refine qx_run ?_
  refine pc_run (lv := [(0, .ref (b + 1 + 34)), (1, .ref (b + 1))]) rfl ?_
  refine pe_go (pc := 0) rfl (s_aload_n rfl) ?_
  refine pe_go (pc := 1) rfl (s_getf (v := .int (iI (k : Int))) (gA (oC_len hb) oX_P) rfl) ?_
  refine pe_go (pc := 4) rfl (s_bipush (z := 20) rfl) ?_
  by_cases c1 : (k : Int) < 20
  · skip
    refine pe_go rfl (s_icmp_lt_t ⟨by omega, by omega⟩ ⟨by decide, by decide⟩ c1) ?_
    refine pe_go (pc := 13) rfl (s_aload_n rfl) ?_
    refine pe_go (pc := 14) rfl (s_aload_n rfl) ?_
    refine pe_call rfl (s_invV rfl (gA (oC_len hb) oX_P) rfl rfl) (c_keepTopP hb S (k := k) hk) ?_
    refine pe_go (pc := 18) rfl (s_aload_n rfl) ?_
    refine pe_go (pc := 19) rfl (s_dup rfl) ?_
    refine pe_go (pc := 20) rfl (s_getf (v := .int (iI (k : Int))) (gA (oC_len hb) oX_P) rfl) ?_
    refine pe_go (pc := 23) rfl (s_iconst (z := 1) rfl) ?_
    refine pe_go (pc := 24) rfl s_iadd ?_
    refine pe_go (pc := 25) rfl (s_putf (w' := (pre ++ oC (b + 1)) ++ (mB (b + 1) S ++ (oP (b + 1) (S.kt k pn) (S.kb k pb) ((k : Int) + 1) rn rb rc cl ++ post))) (gA (oC_len hb) oX_P) (Nat.le_of_ble_eq_true rfl) rfl (gS (oC_len hb) oX_s_pc)) ?_
    exact pe_ret rfl s_retv ⟨rfl, by unfold St.pshN St.pshB pshC; rw [if_pos (by omega), if_pos (by omega), if_pos (by omega)]; rfl⟩
  · skip
    refine pe_go rfl (s_icmp_lt_f ⟨by omega, by omega⟩ ⟨by decide, by decide⟩ c1) ?_
    refine pe_go (pc := 9) rfl (s_aload_n rfl) ?_
    refine pe_call rfl (s_invV rfl (gA (oC_len hb) oX_P) rfl rfl) (c_forget hb S) ?_
    refine pe_go (pc := 13) rfl (s_aload_n rfl) ?_
    refine pe_go (pc := 14) rfl (s_aload_n rfl) ?_
    refine pe_call rfl (s_invV rfl (gA (oC_len hb) oX_P) rfl rfl) (c_keepTopP hb S (k := 19) (by omega)) ?_
    refine pe_go (pc := 18) rfl (s_aload_n rfl) ?_
    refine pe_go (pc := 19) rfl (s_dup rfl) ?_
    refine pe_go (pc := 20) rfl (s_getf (v := .int (iI ((19 : Nat) : Int))) (gA (oC_len hb) oX_P) rfl) ?_
    refine pe_go (pc := 23) rfl (s_iconst (z := 1) rfl) ?_
    refine pe_go (pc := 24) rfl s_iadd ?_
    refine pe_go (pc := 25) rfl (s_putf (w' := (pre ++ oC (b + 1)) ++ (mB (b + 1) S ++ (oP (b + 1) (S.kt 19 (zcpy pn pn 361 0 6859)) (S.kb 19 (zcpy pb pb 41 0 779)) (((19 : Nat) : Int) + 1) rn rb rc cl ++ post))) (gA (oC_len hb) oX_P) (Nat.le_of_ble_eq_true rfl) rfl (gS (oC_len hb) oX_s_pc)) ?_
    exact pe_ret rfl s_retv ⟨rfl, by unfold St.pshN St.pshB pshC; rw [if_neg (by omega), if_neg (by omega), if_neg (by omega)]; rfl⟩
theorem c_copyPQ {pre post : pW} {b : Nat} (hb : pre.length = b) (S : St) {pn : Nat → Int} {pb : Nat → Int64} {pc : Int} {rn : Nat → Int} {rb : Nat → Int64} {cl : Nat → Int} {k : Nat} (hk : k ≤ 20) : pRun 56 [.ref (b + 1 + 34), .ref (b + 1 + 37)] ((pre ++ oC (b + 1)) ++ (mB (b + 1) S ++ (oP (b + 1) pn pb pc rn rb (k : Int) cl ++ post))) none ((pre ++ oC (b + 1)) ++ (mB (b + 1) S ++ (oP (b + 1) (zcpy rn pn 0 0 (361 * k)) (zcpy rb pb 0 0 (41 * k)) (k : Int) rn rb (k : Int) cl ++ post))) := by
  refine qx_run ?_
  refine pc_run (lv := [(0, .ref (b + 1 + 34)), (1, .ref (b + 1 + 37))]) rfl ?_
  refine pe_go (pc := 0) rfl (s_aload_n rfl) ?_
  refine pe_go (pc := 1) rfl (s_getf (v := .ref (b + 1 + 38)) (gA (oC_len hb) oX_Q) rfl) ?_
  refine pe_go (pc := 4) rfl (s_iconst (z := 0) rfl) ?_
  refine pe_go (pc := 5) rfl (s_aload_n rfl) ?_
  refine pe_go (pc := 6) rfl (s_getf (v := .ref (b + 1 + 35)) (gA (oC_len hb) oX_P) rfl) ?_
  refine pe_go (pc := 9) rfl (s_iconst (z := 0) rfl) ?_
  refine pe_go (pc := 10) rfl (s_aload_n rfl) ?_
  refine pe_go (pc := 11) rfl (s_getf (v := .int (iI (k : Int))) (gA (oC_len hb) oX_Q) rfl) ?_
  refine pe_go (pc := 14) rfl (s_sipush (z := 361) rfl) ?_
  refine pe_go (pc := 17) rfl s_imul ?_
  rw [show (k : Int) * 361 = ((361 * k : Nat) : Int) by omega]
  refine pe_go rfl (s_copyI (f := rn) (g := pn) (sp := 0) (dp := 0) (n := (361 * k)) (w' := (pre ++ oC (b + 1)) ++ (mB (b + 1) S ++ (oP (b + 1) (zcpy rn pn 0 0 (361 * k)) pb pc rn rb (k : Int) cl ++ post))) (gA (oC_len hb) oX_rn) (gA (oC_len hb) oX_pn) (by omega) (by omega) (by omega) (by omega) (by omega) (by decide) (by decide) rfl (gS (oC_len hb) oX_s_pn)) ?_
  refine pe_go (pc := 21) rfl (s_aload_n rfl) ?_
  refine pe_go (pc := 22) rfl (s_getf (v := .ref (b + 1 + 39)) (gA (oC_len hb) oX_Q) rfl) ?_
  refine pe_go (pc := 25) rfl (s_iconst (z := 0) rfl) ?_
  refine pe_go (pc := 26) rfl (s_aload_n rfl) ?_
  refine pe_go (pc := 27) rfl (s_getf (v := .ref (b + 1 + 36)) (gA (oC_len hb) oX_P) rfl) ?_
  refine pe_go (pc := 30) rfl (s_iconst (z := 0) rfl) ?_
  refine pe_go (pc := 31) rfl (s_aload_n rfl) ?_
  refine pe_go (pc := 32) rfl (s_getf (v := .int (iI (k : Int))) (gA (oC_len hb) oX_Q) rfl) ?_
  refine pe_go (pc := 35) rfl (s_bipush (z := 41) rfl) ?_
  refine pe_go (pc := 37) rfl s_imul ?_
  rw [show (k : Int) * 41 = ((41 * k : Nat) : Int) by omega]
  refine pe_go rfl (s_copyL (f := rb) (g := pb) (sp := 0) (dp := 0) (n := (41 * k)) (w' := (pre ++ oC (b + 1)) ++ (mB (b + 1) S ++ (oP (b + 1) (zcpy rn pn 0 0 (361 * k)) (zcpy rb pb 0 0 (41 * k)) pc rn rb (k : Int) cl ++ post))) (gA (oC_len hb) oX_rb) (gA (oC_len hb) oX_pb) (by omega) (by omega) (by omega) (by omega) (by omega) (by decide) (by decide) rfl (gS (oC_len hb) oX_s_pb)) ?_
  refine pe_go (pc := 41) rfl (s_aload_n rfl) ?_
  refine pe_go (pc := 42) rfl (s_aload_n rfl) ?_
  refine pe_go (pc := 43) rfl (s_getf (v := .int (iI (k : Int))) (gA (oC_len hb) oX_Q) rfl) ?_
  refine pe_go (pc := 46) rfl (s_putf (w' := (pre ++ oC (b + 1)) ++ (mB (b + 1) S ++ (oP (b + 1) (zcpy rn pn 0 0 (361 * k)) (zcpy rb pb 0 0 (41 * k)) (k : Int) rn rb (k : Int) cl ++ post))) (gA (oC_len hb) oX_P) (Nat.le_of_ble_eq_true rfl) rfl (gS (oC_len hb) oX_s_pc)) ?_
  exact pe_ret rfl s_retv ⟨rfl, rfl⟩
theorem c_copyQP {pre post : pW} {b : Nat} (hb : pre.length = b) (S : St) {pn : Nat → Int} {pb : Nat → Int64} {rn : Nat → Int} {rb : Nat → Int64} {rc : Int} {cl : Nat → Int} {k : Nat} (hk : k ≤ 20) : pRun 56 [.ref (b + 1 + 37), .ref (b + 1 + 34)] ((pre ++ oC (b + 1)) ++ (mB (b + 1) S ++ (oP (b + 1) pn pb (k : Int) rn rb rc cl ++ post))) none ((pre ++ oC (b + 1)) ++ (mB (b + 1) S ++ (oP (b + 1) pn pb (k : Int) (zcpy pn rn 0 0 (361 * k)) (zcpy pb rb 0 0 (41 * k)) (k : Int) cl ++ post))) := by
  refine qx_run ?_
  refine pc_run (lv := [(0, .ref (b + 1 + 37)), (1, .ref (b + 1 + 34))]) rfl ?_
  refine pe_go (pc := 0) rfl (s_aload_n rfl) ?_
  refine pe_go (pc := 1) rfl (s_getf (v := .ref (b + 1 + 35)) (gA (oC_len hb) oX_P) rfl) ?_
  refine pe_go (pc := 4) rfl (s_iconst (z := 0) rfl) ?_
  refine pe_go (pc := 5) rfl (s_aload_n rfl) ?_
  refine pe_go (pc := 6) rfl (s_getf (v := .ref (b + 1 + 38)) (gA (oC_len hb) oX_Q) rfl) ?_
  refine pe_go (pc := 9) rfl (s_iconst (z := 0) rfl) ?_
  refine pe_go (pc := 10) rfl (s_aload_n rfl) ?_
  refine pe_go (pc := 11) rfl (s_getf (v := .int (iI (k : Int))) (gA (oC_len hb) oX_P) rfl) ?_
  refine pe_go (pc := 14) rfl (s_sipush (z := 361) rfl) ?_
  refine pe_go (pc := 17) rfl s_imul ?_
  rw [show (k : Int) * 361 = ((361 * k : Nat) : Int) by omega]
  refine pe_go rfl (s_copyI (f := pn) (g := rn) (sp := 0) (dp := 0) (n := (361 * k)) (w' := (pre ++ oC (b + 1)) ++ (mB (b + 1) S ++ (oP (b + 1) pn pb (k : Int) (zcpy pn rn 0 0 (361 * k)) rb rc cl ++ post))) (gA (oC_len hb) oX_pn) (gA (oC_len hb) oX_rn) (by omega) (by omega) (by omega) (by omega) (by omega) (by decide) (by decide) rfl (gS (oC_len hb) oX_s_rn)) ?_
  refine pe_go (pc := 21) rfl (s_aload_n rfl) ?_
  refine pe_go (pc := 22) rfl (s_getf (v := .ref (b + 1 + 36)) (gA (oC_len hb) oX_P) rfl) ?_
  refine pe_go (pc := 25) rfl (s_iconst (z := 0) rfl) ?_
  refine pe_go (pc := 26) rfl (s_aload_n rfl) ?_
  refine pe_go (pc := 27) rfl (s_getf (v := .ref (b + 1 + 39)) (gA (oC_len hb) oX_Q) rfl) ?_
  refine pe_go (pc := 30) rfl (s_iconst (z := 0) rfl) ?_
  refine pe_go (pc := 31) rfl (s_aload_n rfl) ?_
  refine pe_go (pc := 32) rfl (s_getf (v := .int (iI (k : Int))) (gA (oC_len hb) oX_P) rfl) ?_
  refine pe_go (pc := 35) rfl (s_bipush (z := 41) rfl) ?_
  refine pe_go (pc := 37) rfl s_imul ?_
  rw [show (k : Int) * 41 = ((41 * k : Nat) : Int) by omega]
  refine pe_go rfl (s_copyL (f := pb) (g := rb) (sp := 0) (dp := 0) (n := (41 * k)) (w' := (pre ++ oC (b + 1)) ++ (mB (b + 1) S ++ (oP (b + 1) pn pb (k : Int) (zcpy pn rn 0 0 (361 * k)) (zcpy pb rb 0 0 (41 * k)) rc cl ++ post))) (gA (oC_len hb) oX_pb) (gA (oC_len hb) oX_rb) (by omega) (by omega) (by omega) (by omega) (by omega) (by decide) (by decide) rfl (gS (oC_len hb) oX_s_rb)) ?_
  refine pe_go (pc := 41) rfl (s_aload_n rfl) ?_
  refine pe_go (pc := 42) rfl (s_aload_n rfl) ?_
  refine pe_go (pc := 43) rfl (s_getf (v := .int (iI (k : Int))) (gA (oC_len hb) oX_P) rfl) ?_
  refine pe_go (pc := 46) rfl (s_putf (w' := (pre ++ oC (b + 1)) ++ (mB (b + 1) S ++ (oP (b + 1) pn pb (k : Int) (zcpy pn rn 0 0 (361 * k)) (zcpy pb rb 0 0 (41 * k)) (k : Int) cl ++ post))) (gA (oC_len hb) oX_Q) (Nat.le_of_ble_eq_true rfl) rfl (gS (oC_len hb) oX_s_rc)) ?_
  exact pe_ret rfl s_retv ⟨rfl, rfl⟩
def St.tk (S : St) (k : Nat) (f : Nat → Int) (g : Nat → Int64) : St := sM (zcpy f S.xs (361 * k) 0 40) (zcpy f S.ys (361 * k + 40) 0 40) (zcpy f S.hs (361 * k + 80) 0 40) (zcpy g S.fx (41 * k) 0 40) (zcpy f S.hx (361 * k + 120) 0 8) (zcpy f S.hy (361 * k + 128) 0 8) (g (41 * k + 40)) (f (361 * k + 136)) (f (361 * k + 137)) S.ap S.ow S.co S.en S.ne S.rd S.tn S.ec S.li S.wa S.qu S.qn
theorem c_copyFromP {pre post : pW} {b : Nat} (hb : pre.length = b) (S : St) {pn : Nat → Int} {pb : Nat → Int64} {pc : Int} {rn : Nat → Int} {rb : Nat → Int64} {rc : Int} {cl : Nat → Int} {k : Nat} (hk : k ≤ 20) : pRun 63 [.ref (b + 1 + 1), .ref (b + 1 + 35), .int (iI ((361 * k : Nat) : Int)), .ref (b + 1 + 36), .int (iI ((41 * k : Nat) : Int))] ((pre ++ oC (b + 1)) ++ (mB (b + 1) S ++ (oP (b + 1) pn pb pc rn rb rc cl ++ post))) none ((pre ++ oC (b + 1)) ++ (mB (b + 1) (S.tk k pn pb) ++ (oP (b + 1) pn pb pc rn rb rc cl ++ post))) := by
  refine qx_run ?_
  refine pc_run (lv := [(0, .ref (b + 1 + 1)), (1, .ref (b + 1 + 35)), (2, .int (iI ((361 * k : Nat) : Int))), (3, .ref (b + 1 + 36)), (4, .int (iI ((41 * k : Nat) : Int)))]) rfl ?_
  rw [mB_eta (b + 1) S]
  refine pe_go (pc := 0) rfl (s_aload_n rfl) ?_
  refine pe_go (pc := 1) rfl (s_iload_n rfl) ?_
  refine pe_go (pc := 2) rfl (s_aload_n rfl) ?_
  refine pe_go (pc := 3) rfl (s_getf (v := .ref (b + 1 + 2)) (gA (oC_len hb) mM_1) rfl) ?_
  refine pe_go (pc := 6) rfl (s_iconst (z := 0) rfl) ?_
  refine pe_go (pc := 7) rfl (s_bipush (z := 40) rfl) ?_
  refine pe_go rfl (s_copyI (f := pn) (g := S.xs) (sp := (361 * k)) (dp := 0) (n := 40) (w' := (pre ++ oC (b + 1)) ++ (mB (b + 1) (sM (zcpy pn S.xs (361 * k) 0 40) S.ys S.hs S.fx S.hx S.hy S.th S.hn S.g S.ap S.ow S.co S.en S.ne S.rd S.tn S.ec S.li S.wa S.qu S.qn) ++ (oP (b + 1) pn pb pc rn rb rc cl ++ post))) (gA (oC_len hb) oX_pn) (gA (oC_len hb) mM_xs) (by omega) (by omega) (by omega) (by omega) (by omega) (by decide) (by decide) rfl (gS (oC_len hb) mM_s_xs)) ?_
  refine pe_go (pc := 12) rfl (s_aload_n rfl) ?_
  refine pe_go (pc := 13) rfl (s_iload_n rfl) ?_
  refine pe_go (pc := 14) rfl (s_bipush (z := 40) rfl) ?_
  refine pe_go (pc := 16) rfl s_iadd ?_
  refine pe_go (pc := 17) rfl (s_aload_n rfl) ?_
  refine pe_go (pc := 18) rfl (s_getf (v := .ref (b + 1 + 3)) (gA (oC_len hb) mM_1) rfl) ?_
  refine pe_go (pc := 21) rfl (s_iconst (z := 0) rfl) ?_
  refine pe_go (pc := 22) rfl (s_bipush (z := 40) rfl) ?_
  refine pe_go rfl (s_copyI (f := pn) (g := S.ys) (sp := (361 * k) + 40) (dp := 0) (n := 40) (w' := (pre ++ oC (b + 1)) ++ (mB (b + 1) (sM (zcpy pn S.xs (361 * k) 0 40) (zcpy pn S.ys ((361 * k) + 40) 0 40) S.hs S.fx S.hx S.hy S.th S.hn S.g S.ap S.ow S.co S.en S.ne S.rd S.tn S.ec S.li S.wa S.qu S.qn) ++ (oP (b + 1) pn pb pc rn rb rc cl ++ post))) (gA (oC_len hb) oX_pn) (gA (oC_len hb) mM_ys) (by omega) (by omega) (by omega) (by omega) (by omega) (by decide) (by decide) rfl (gS (oC_len hb) mM_s_ys)) ?_
  refine pe_go (pc := 27) rfl (s_aload_n rfl) ?_
  refine pe_go (pc := 28) rfl (s_iload_n rfl) ?_
  refine pe_go (pc := 29) rfl (s_bipush (z := 80) rfl) ?_
  refine pe_go (pc := 31) rfl s_iadd ?_
  refine pe_go (pc := 32) rfl (s_aload_n rfl) ?_
  refine pe_go (pc := 33) rfl (s_getf (v := .ref (b + 1 + 4)) (gA (oC_len hb) mM_1) rfl) ?_
  refine pe_go (pc := 36) rfl (s_iconst (z := 0) rfl) ?_
  refine pe_go (pc := 37) rfl (s_bipush (z := 40) rfl) ?_
  refine pe_go rfl (s_copyI (f := pn) (g := S.hs) (sp := (361 * k) + 80) (dp := 0) (n := 40) (w' := (pre ++ oC (b + 1)) ++ (mB (b + 1) (sM (zcpy pn S.xs (361 * k) 0 40) (zcpy pn S.ys ((361 * k) + 40) 0 40) (zcpy pn S.hs ((361 * k) + 80) 0 40) S.fx S.hx S.hy S.th S.hn S.g S.ap S.ow S.co S.en S.ne S.rd S.tn S.ec S.li S.wa S.qu S.qn) ++ (oP (b + 1) pn pb pc rn rb rc cl ++ post))) (gA (oC_len hb) oX_pn) (gA (oC_len hb) mM_hs) (by omega) (by omega) (by omega) (by omega) (by omega) (by decide) (by decide) rfl (gS (oC_len hb) mM_s_hs)) ?_
  refine pe_go (pc := 42) rfl (s_aload_n rfl) ?_
  refine pe_go (pc := 43) rfl (s_iload_n rfl) ?_
  refine pe_go (pc := 44) rfl (s_bipush (z := 120) rfl) ?_
  refine pe_go (pc := 46) rfl s_iadd ?_
  refine pe_go (pc := 47) rfl (s_aload_n rfl) ?_
  refine pe_go (pc := 48) rfl (s_getf (v := .ref (b + 1 + 6)) (gA (oC_len hb) mM_1) rfl) ?_
  refine pe_go (pc := 51) rfl (s_iconst (z := 0) rfl) ?_
  refine pe_go (pc := 52) rfl (s_bipush (z := 8) rfl) ?_
  refine pe_go rfl (s_copyI (f := pn) (g := S.hx) (sp := (361 * k) + 120) (dp := 0) (n := 8) (w' := (pre ++ oC (b + 1)) ++ (mB (b + 1) (sM (zcpy pn S.xs (361 * k) 0 40) (zcpy pn S.ys ((361 * k) + 40) 0 40) (zcpy pn S.hs ((361 * k) + 80) 0 40) S.fx (zcpy pn S.hx ((361 * k) + 120) 0 8) S.hy S.th S.hn S.g S.ap S.ow S.co S.en S.ne S.rd S.tn S.ec S.li S.wa S.qu S.qn) ++ (oP (b + 1) pn pb pc rn rb rc cl ++ post))) (gA (oC_len hb) oX_pn) (gA (oC_len hb) mM_hx) (by omega) (by omega) (by omega) (by omega) (by omega) (by decide) (by decide) rfl (gS (oC_len hb) mM_s_hx)) ?_
  refine pe_go (pc := 57) rfl (s_aload_n rfl) ?_
  refine pe_go (pc := 58) rfl (s_iload_n rfl) ?_
  refine pe_go (pc := 59) rfl (s_sipush (z := 128) rfl) ?_
  refine pe_go (pc := 62) rfl s_iadd ?_
  refine pe_go (pc := 63) rfl (s_aload_n rfl) ?_
  refine pe_go (pc := 64) rfl (s_getf (v := .ref (b + 1 + 7)) (gA (oC_len hb) mM_1) rfl) ?_
  refine pe_go (pc := 67) rfl (s_iconst (z := 0) rfl) ?_
  refine pe_go (pc := 68) rfl (s_bipush (z := 8) rfl) ?_
  refine pe_go rfl (s_copyI (f := pn) (g := S.hy) (sp := (361 * k) + 128) (dp := 0) (n := 8) (w' := (pre ++ oC (b + 1)) ++ (mB (b + 1) (sM (zcpy pn S.xs (361 * k) 0 40) (zcpy pn S.ys ((361 * k) + 40) 0 40) (zcpy pn S.hs ((361 * k) + 80) 0 40) S.fx (zcpy pn S.hx ((361 * k) + 120) 0 8) (zcpy pn S.hy ((361 * k) + 128) 0 8) S.th S.hn S.g S.ap S.ow S.co S.en S.ne S.rd S.tn S.ec S.li S.wa S.qu S.qn) ++ (oP (b + 1) pn pb pc rn rb rc cl ++ post))) (gA (oC_len hb) oX_pn) (gA (oC_len hb) mM_hy) (by omega) (by omega) (by omega) (by omega) (by omega) (by decide) (by decide) rfl (gS (oC_len hb) mM_s_hy)) ?_
  refine pe_go (pc := 73) rfl (s_aload_n rfl) ?_
  refine pe_go (pc := 74) rfl (s_iload rfl) ?_
  refine pe_go (pc := 76) rfl (s_aload_n rfl) ?_
  refine pe_go (pc := 77) rfl (s_getf (v := .ref (b + 1 + 5)) (gA (oC_len hb) mM_1) rfl) ?_
  refine pe_go (pc := 80) rfl (s_iconst (z := 0) rfl) ?_
  refine pe_go (pc := 81) rfl (s_bipush (z := 40) rfl) ?_
  refine pe_go rfl (s_copyL (f := pb) (g := S.fx) (sp := (41 * k)) (dp := 0) (n := 40) (w' := (pre ++ oC (b + 1)) ++ (mB (b + 1) (sM (zcpy pn S.xs (361 * k) 0 40) (zcpy pn S.ys ((361 * k) + 40) 0 40) (zcpy pn S.hs ((361 * k) + 80) 0 40) (zcpy pb S.fx (41 * k) 0 40) (zcpy pn S.hx ((361 * k) + 120) 0 8) (zcpy pn S.hy ((361 * k) + 128) 0 8) S.th S.hn S.g S.ap S.ow S.co S.en S.ne S.rd S.tn S.ec S.li S.wa S.qu S.qn) ++ (oP (b + 1) pn pb pc rn rb rc cl ++ post))) (gA (oC_len hb) oX_pb) (gA (oC_len hb) mM_fx) (by omega) (by omega) (by omega) (by omega) (by omega) (by decide) (by decide) rfl (gS (oC_len hb) mM_s_fx)) ?_
  refine pe_go (pc := 86) rfl (s_aload_n rfl) ?_
  refine pe_go (pc := 87) rfl (s_aload_n rfl) ?_
  refine pe_go (pc := 88) rfl (s_iload rfl) ?_
  refine pe_go (pc := 90) rfl (s_bipush (z := 40) rfl) ?_
  refine pe_go (pc := 92) rfl s_iadd ?_
  refine pe_go (pc := 93) rfl (s_lald (n := 861) (f := pb) (v := pb ((41 * k) + 40)) (gA (oC_len hb) oX_pb) (k := (41 * k) + 40) (by omega) (by omega) (by decide) rfl) ?_
  refine pe_go (pc := 94) rfl (s_putf (w' := (pre ++ oC (b + 1)) ++ (mB (b + 1) (sM (zcpy pn S.xs (361 * k) 0 40) (zcpy pn S.ys ((361 * k) + 40) 0 40) (zcpy pn S.hs ((361 * k) + 80) 0 40) (zcpy pb S.fx (41 * k) 0 40) (zcpy pn S.hx ((361 * k) + 120) 0 8) (zcpy pn S.hy ((361 * k) + 128) 0 8) (pb ((41 * k) + 40)) S.hn S.g S.ap S.ow S.co S.en S.ne S.rd S.tn S.ec S.li S.wa S.qu S.qn) ++ (oP (b + 1) pn pb pc rn rb rc cl ++ post))) (gA (oC_len hb) mM_1) (Nat.le_of_ble_eq_true rfl) rfl (gS (oC_len hb) mM_s_th)) ?_
  refine pe_go (pc := 97) rfl (s_aload_n rfl) ?_
  refine pe_go (pc := 98) rfl (s_aload_n rfl) ?_
  refine pe_go (pc := 99) rfl (s_iload_n rfl) ?_
  refine pe_go (pc := 100) rfl (s_sipush (z := 136) rfl) ?_
  refine pe_go (pc := 103) rfl s_iadd ?_
  refine pe_go (pc := 104) rfl (s_iald (n := 7581) (f := pn) (v := pn ((361 * k) + 136)) (gA (oC_len hb) oX_pn) (k := (361 * k) + 136) (by omega) (by omega) (by decide) rfl) ?_
  refine pe_go (pc := 105) rfl (s_putf (w' := (pre ++ oC (b + 1)) ++ (mB (b + 1) (sM (zcpy pn S.xs (361 * k) 0 40) (zcpy pn S.ys ((361 * k) + 40) 0 40) (zcpy pn S.hs ((361 * k) + 80) 0 40) (zcpy pb S.fx (41 * k) 0 40) (zcpy pn S.hx ((361 * k) + 120) 0 8) (zcpy pn S.hy ((361 * k) + 128) 0 8) (pb ((41 * k) + 40)) (pn ((361 * k) + 136)) S.g S.ap S.ow S.co S.en S.ne S.rd S.tn S.ec S.li S.wa S.qu S.qn) ++ (oP (b + 1) pn pb pc rn rb rc cl ++ post))) (gA (oC_len hb) mM_1) (Nat.le_of_ble_eq_true rfl) rfl (gS (oC_len hb) mM_s_hn)) ?_
  refine pe_go (pc := 108) rfl (s_aload_n rfl) ?_
  refine pe_go (pc := 109) rfl (s_aload_n rfl) ?_
  refine pe_go (pc := 110) rfl (s_iload_n rfl) ?_
  refine pe_go (pc := 111) rfl (s_sipush (z := 137) rfl) ?_
  refine pe_go (pc := 114) rfl s_iadd ?_
  refine pe_go (pc := 115) rfl (s_iald (n := 7581) (f := pn) (v := pn ((361 * k) + 137)) (gA (oC_len hb) oX_pn) (k := (361 * k) + 137) (by omega) (by omega) (by decide) rfl) ?_
  refine pe_go (pc := 116) rfl (s_putf (w' := (pre ++ oC (b + 1)) ++ (mB (b + 1) (sM (zcpy pn S.xs (361 * k) 0 40) (zcpy pn S.ys ((361 * k) + 40) 0 40) (zcpy pn S.hs ((361 * k) + 80) 0 40) (zcpy pb S.fx (41 * k) 0 40) (zcpy pn S.hx ((361 * k) + 120) 0 8) (zcpy pn S.hy ((361 * k) + 128) 0 8) (pb ((41 * k) + 40)) (pn ((361 * k) + 136)) (pn ((361 * k) + 137)) S.ap S.ow S.co S.en S.ne S.rd S.tn S.ec S.li S.wa S.qu S.qn) ++ (oP (b + 1) pn pb pc rn rb rc cl ++ post))) (gA (oC_len hb) mM_1) (Nat.le_of_ble_eq_true rfl) rfl (gS (oC_len hb) mM_s_g)) ?_
  exact pe_ret rfl s_retv ⟨rfl, rfl⟩
theorem c_copyFromQ {pre post : pW} {b : Nat} (hb : pre.length = b) (S : St) {pn : Nat → Int} {pb : Nat → Int64} {pc : Int} {rn : Nat → Int} {rb : Nat → Int64} {rc : Int} {cl : Nat → Int} {k : Nat} (hk : k ≤ 20) : pRun 63 [.ref (b + 1 + 1), .ref (b + 1 + 38), .int (iI ((361 * k : Nat) : Int)), .ref (b + 1 + 39), .int (iI ((41 * k : Nat) : Int))] ((pre ++ oC (b + 1)) ++ (mB (b + 1) S ++ (oP (b + 1) pn pb pc rn rb rc cl ++ post))) none ((pre ++ oC (b + 1)) ++ (mB (b + 1) (S.tk k rn rb) ++ (oP (b + 1) pn pb pc rn rb rc cl ++ post))) := by
  refine qx_run ?_
  refine pc_run (lv := [(0, .ref (b + 1 + 1)), (1, .ref (b + 1 + 38)), (2, .int (iI ((361 * k : Nat) : Int))), (3, .ref (b + 1 + 39)), (4, .int (iI ((41 * k : Nat) : Int)))]) rfl ?_
  rw [mB_eta (b + 1) S]
  refine pe_go (pc := 0) rfl (s_aload_n rfl) ?_
  refine pe_go (pc := 1) rfl (s_iload_n rfl) ?_
  refine pe_go (pc := 2) rfl (s_aload_n rfl) ?_
  refine pe_go (pc := 3) rfl (s_getf (v := .ref (b + 1 + 2)) (gA (oC_len hb) mM_1) rfl) ?_
  refine pe_go (pc := 6) rfl (s_iconst (z := 0) rfl) ?_
  refine pe_go (pc := 7) rfl (s_bipush (z := 40) rfl) ?_
  refine pe_go rfl (s_copyI (f := rn) (g := S.xs) (sp := (361 * k)) (dp := 0) (n := 40) (w' := (pre ++ oC (b + 1)) ++ (mB (b + 1) (sM (zcpy rn S.xs (361 * k) 0 40) S.ys S.hs S.fx S.hx S.hy S.th S.hn S.g S.ap S.ow S.co S.en S.ne S.rd S.tn S.ec S.li S.wa S.qu S.qn) ++ (oP (b + 1) pn pb pc rn rb rc cl ++ post))) (gA (oC_len hb) oX_rn) (gA (oC_len hb) mM_xs) (by omega) (by omega) (by omega) (by omega) (by omega) (by decide) (by decide) rfl (gS (oC_len hb) mM_s_xs)) ?_
  refine pe_go (pc := 12) rfl (s_aload_n rfl) ?_
  refine pe_go (pc := 13) rfl (s_iload_n rfl) ?_
  refine pe_go (pc := 14) rfl (s_bipush (z := 40) rfl) ?_
  refine pe_go (pc := 16) rfl s_iadd ?_
  refine pe_go (pc := 17) rfl (s_aload_n rfl) ?_
  refine pe_go (pc := 18) rfl (s_getf (v := .ref (b + 1 + 3)) (gA (oC_len hb) mM_1) rfl) ?_
  refine pe_go (pc := 21) rfl (s_iconst (z := 0) rfl) ?_
  refine pe_go (pc := 22) rfl (s_bipush (z := 40) rfl) ?_
  refine pe_go rfl (s_copyI (f := rn) (g := S.ys) (sp := (361 * k) + 40) (dp := 0) (n := 40) (w' := (pre ++ oC (b + 1)) ++ (mB (b + 1) (sM (zcpy rn S.xs (361 * k) 0 40) (zcpy rn S.ys ((361 * k) + 40) 0 40) S.hs S.fx S.hx S.hy S.th S.hn S.g S.ap S.ow S.co S.en S.ne S.rd S.tn S.ec S.li S.wa S.qu S.qn) ++ (oP (b + 1) pn pb pc rn rb rc cl ++ post))) (gA (oC_len hb) oX_rn) (gA (oC_len hb) mM_ys) (by omega) (by omega) (by omega) (by omega) (by omega) (by decide) (by decide) rfl (gS (oC_len hb) mM_s_ys)) ?_
  refine pe_go (pc := 27) rfl (s_aload_n rfl) ?_
  refine pe_go (pc := 28) rfl (s_iload_n rfl) ?_
  refine pe_go (pc := 29) rfl (s_bipush (z := 80) rfl) ?_
  refine pe_go (pc := 31) rfl s_iadd ?_
  refine pe_go (pc := 32) rfl (s_aload_n rfl) ?_
  refine pe_go (pc := 33) rfl (s_getf (v := .ref (b + 1 + 4)) (gA (oC_len hb) mM_1) rfl) ?_
  refine pe_go (pc := 36) rfl (s_iconst (z := 0) rfl) ?_
  refine pe_go (pc := 37) rfl (s_bipush (z := 40) rfl) ?_
  refine pe_go rfl (s_copyI (f := rn) (g := S.hs) (sp := (361 * k) + 80) (dp := 0) (n := 40) (w' := (pre ++ oC (b + 1)) ++ (mB (b + 1) (sM (zcpy rn S.xs (361 * k) 0 40) (zcpy rn S.ys ((361 * k) + 40) 0 40) (zcpy rn S.hs ((361 * k) + 80) 0 40) S.fx S.hx S.hy S.th S.hn S.g S.ap S.ow S.co S.en S.ne S.rd S.tn S.ec S.li S.wa S.qu S.qn) ++ (oP (b + 1) pn pb pc rn rb rc cl ++ post))) (gA (oC_len hb) oX_rn) (gA (oC_len hb) mM_hs) (by omega) (by omega) (by omega) (by omega) (by omega) (by decide) (by decide) rfl (gS (oC_len hb) mM_s_hs)) ?_
  refine pe_go (pc := 42) rfl (s_aload_n rfl) ?_
  refine pe_go (pc := 43) rfl (s_iload_n rfl) ?_
  refine pe_go (pc := 44) rfl (s_bipush (z := 120) rfl) ?_
  refine pe_go (pc := 46) rfl s_iadd ?_
  refine pe_go (pc := 47) rfl (s_aload_n rfl) ?_
  refine pe_go (pc := 48) rfl (s_getf (v := .ref (b + 1 + 6)) (gA (oC_len hb) mM_1) rfl) ?_
  refine pe_go (pc := 51) rfl (s_iconst (z := 0) rfl) ?_
  refine pe_go (pc := 52) rfl (s_bipush (z := 8) rfl) ?_
  refine pe_go rfl (s_copyI (f := rn) (g := S.hx) (sp := (361 * k) + 120) (dp := 0) (n := 8) (w' := (pre ++ oC (b + 1)) ++ (mB (b + 1) (sM (zcpy rn S.xs (361 * k) 0 40) (zcpy rn S.ys ((361 * k) + 40) 0 40) (zcpy rn S.hs ((361 * k) + 80) 0 40) S.fx (zcpy rn S.hx ((361 * k) + 120) 0 8) S.hy S.th S.hn S.g S.ap S.ow S.co S.en S.ne S.rd S.tn S.ec S.li S.wa S.qu S.qn) ++ (oP (b + 1) pn pb pc rn rb rc cl ++ post))) (gA (oC_len hb) oX_rn) (gA (oC_len hb) mM_hx) (by omega) (by omega) (by omega) (by omega) (by omega) (by decide) (by decide) rfl (gS (oC_len hb) mM_s_hx)) ?_
  refine pe_go (pc := 57) rfl (s_aload_n rfl) ?_
  refine pe_go (pc := 58) rfl (s_iload_n rfl) ?_
  refine pe_go (pc := 59) rfl (s_sipush (z := 128) rfl) ?_
  refine pe_go (pc := 62) rfl s_iadd ?_
  refine pe_go (pc := 63) rfl (s_aload_n rfl) ?_
  refine pe_go (pc := 64) rfl (s_getf (v := .ref (b + 1 + 7)) (gA (oC_len hb) mM_1) rfl) ?_
  refine pe_go (pc := 67) rfl (s_iconst (z := 0) rfl) ?_
  refine pe_go (pc := 68) rfl (s_bipush (z := 8) rfl) ?_
  refine pe_go rfl (s_copyI (f := rn) (g := S.hy) (sp := (361 * k) + 128) (dp := 0) (n := 8) (w' := (pre ++ oC (b + 1)) ++ (mB (b + 1) (sM (zcpy rn S.xs (361 * k) 0 40) (zcpy rn S.ys ((361 * k) + 40) 0 40) (zcpy rn S.hs ((361 * k) + 80) 0 40) S.fx (zcpy rn S.hx ((361 * k) + 120) 0 8) (zcpy rn S.hy ((361 * k) + 128) 0 8) S.th S.hn S.g S.ap S.ow S.co S.en S.ne S.rd S.tn S.ec S.li S.wa S.qu S.qn) ++ (oP (b + 1) pn pb pc rn rb rc cl ++ post))) (gA (oC_len hb) oX_rn) (gA (oC_len hb) mM_hy) (by omega) (by omega) (by omega) (by omega) (by omega) (by decide) (by decide) rfl (gS (oC_len hb) mM_s_hy)) ?_
  refine pe_go (pc := 73) rfl (s_aload_n rfl) ?_
  refine pe_go (pc := 74) rfl (s_iload rfl) ?_
  refine pe_go (pc := 76) rfl (s_aload_n rfl) ?_
  refine pe_go (pc := 77) rfl (s_getf (v := .ref (b + 1 + 5)) (gA (oC_len hb) mM_1) rfl) ?_
  refine pe_go (pc := 80) rfl (s_iconst (z := 0) rfl) ?_
  refine pe_go (pc := 81) rfl (s_bipush (z := 40) rfl) ?_
  refine pe_go rfl (s_copyL (f := rb) (g := S.fx) (sp := (41 * k)) (dp := 0) (n := 40) (w' := (pre ++ oC (b + 1)) ++ (mB (b + 1) (sM (zcpy rn S.xs (361 * k) 0 40) (zcpy rn S.ys ((361 * k) + 40) 0 40) (zcpy rn S.hs ((361 * k) + 80) 0 40) (zcpy rb S.fx (41 * k) 0 40) (zcpy rn S.hx ((361 * k) + 120) 0 8) (zcpy rn S.hy ((361 * k) + 128) 0 8) S.th S.hn S.g S.ap S.ow S.co S.en S.ne S.rd S.tn S.ec S.li S.wa S.qu S.qn) ++ (oP (b + 1) pn pb pc rn rb rc cl ++ post))) (gA (oC_len hb) oX_rb) (gA (oC_len hb) mM_fx) (by omega) (by omega) (by omega) (by omega) (by omega) (by decide) (by decide) rfl (gS (oC_len hb) mM_s_fx)) ?_
  refine pe_go (pc := 86) rfl (s_aload_n rfl) ?_
  refine pe_go (pc := 87) rfl (s_aload_n rfl) ?_
  refine pe_go (pc := 88) rfl (s_iload rfl) ?_
  refine pe_go (pc := 90) rfl (s_bipush (z := 40) rfl) ?_
  refine pe_go (pc := 92) rfl s_iadd ?_
  refine pe_go (pc := 93) rfl (s_lald (n := 861) (f := rb) (v := rb ((41 * k) + 40)) (gA (oC_len hb) oX_rb) (k := (41 * k) + 40) (by omega) (by omega) (by decide) rfl) ?_
  refine pe_go (pc := 94) rfl (s_putf (w' := (pre ++ oC (b + 1)) ++ (mB (b + 1) (sM (zcpy rn S.xs (361 * k) 0 40) (zcpy rn S.ys ((361 * k) + 40) 0 40) (zcpy rn S.hs ((361 * k) + 80) 0 40) (zcpy rb S.fx (41 * k) 0 40) (zcpy rn S.hx ((361 * k) + 120) 0 8) (zcpy rn S.hy ((361 * k) + 128) 0 8) (rb ((41 * k) + 40)) S.hn S.g S.ap S.ow S.co S.en S.ne S.rd S.tn S.ec S.li S.wa S.qu S.qn) ++ (oP (b + 1) pn pb pc rn rb rc cl ++ post))) (gA (oC_len hb) mM_1) (Nat.le_of_ble_eq_true rfl) rfl (gS (oC_len hb) mM_s_th)) ?_
  refine pe_go (pc := 97) rfl (s_aload_n rfl) ?_
  refine pe_go (pc := 98) rfl (s_aload_n rfl) ?_
  refine pe_go (pc := 99) rfl (s_iload_n rfl) ?_
  refine pe_go (pc := 100) rfl (s_sipush (z := 136) rfl) ?_
  refine pe_go (pc := 103) rfl s_iadd ?_
  refine pe_go (pc := 104) rfl (s_iald (n := 7581) (f := rn) (v := rn ((361 * k) + 136)) (gA (oC_len hb) oX_rn) (k := (361 * k) + 136) (by omega) (by omega) (by decide) rfl) ?_
  refine pe_go (pc := 105) rfl (s_putf (w' := (pre ++ oC (b + 1)) ++ (mB (b + 1) (sM (zcpy rn S.xs (361 * k) 0 40) (zcpy rn S.ys ((361 * k) + 40) 0 40) (zcpy rn S.hs ((361 * k) + 80) 0 40) (zcpy rb S.fx (41 * k) 0 40) (zcpy rn S.hx ((361 * k) + 120) 0 8) (zcpy rn S.hy ((361 * k) + 128) 0 8) (rb ((41 * k) + 40)) (rn ((361 * k) + 136)) S.g S.ap S.ow S.co S.en S.ne S.rd S.tn S.ec S.li S.wa S.qu S.qn) ++ (oP (b + 1) pn pb pc rn rb rc cl ++ post))) (gA (oC_len hb) mM_1) (Nat.le_of_ble_eq_true rfl) rfl (gS (oC_len hb) mM_s_hn)) ?_
  refine pe_go (pc := 108) rfl (s_aload_n rfl) ?_
  refine pe_go (pc := 109) rfl (s_aload_n rfl) ?_
  refine pe_go (pc := 110) rfl (s_iload_n rfl) ?_
  refine pe_go (pc := 111) rfl (s_sipush (z := 137) rfl) ?_
  refine pe_go (pc := 114) rfl s_iadd ?_
  refine pe_go (pc := 115) rfl (s_iald (n := 7581) (f := rn) (v := rn ((361 * k) + 137)) (gA (oC_len hb) oX_rn) (k := (361 * k) + 137) (by omega) (by omega) (by decide) rfl) ?_
  refine pe_go (pc := 116) rfl (s_putf (w' := (pre ++ oC (b + 1)) ++ (mB (b + 1) (sM (zcpy rn S.xs (361 * k) 0 40) (zcpy rn S.ys ((361 * k) + 40) 0 40) (zcpy rn S.hs ((361 * k) + 80) 0 40) (zcpy rb S.fx (41 * k) 0 40) (zcpy rn S.hx ((361 * k) + 120) 0 8) (zcpy rn S.hy ((361 * k) + 128) 0 8) (rb ((41 * k) + 40)) (rn ((361 * k) + 136)) (rn ((361 * k) + 137)) S.ap S.ow S.co S.en S.ne S.rd S.tn S.ec S.li S.wa S.qu S.qn) ++ (oP (b + 1) pn pb pc rn rb rc cl ++ post))) (gA (oC_len hb) mM_1) (Nat.le_of_ble_eq_true rfl) rfl (gS (oC_len hb) mM_s_g)) ?_
  exact pe_ret rfl s_retv ⟨rfl, rfl⟩
