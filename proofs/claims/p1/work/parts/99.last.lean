/-! THE LAST STEPS OF REFINE (dear in memory), every call as it is owed, the claim. -/
set_option maxRecDepth 1000000 in
theorem zRs_9 : (zRs 9).isSome = true := by decide +kernel
set_option maxRecDepth 1000000 in
theorem zRs_10 : (zRs 10).isSome = true := by decide +kernel
theorem zRs_k (k : Nat) (h1 : 1 ≤ k) (h2 : k ≤ 10) : (zRs k).isSome = true := by
  match k, h1, h2 with
  | 1, _, _ => exact zRs_1
  | 2, _, _ => exact zRs_2
  | 3, _, _ => exact zRs_3
  | 4, _, _ => exact zRs_4
  | 5, _, _ => exact zRs_5
  | 6, _, _ => exact zRs_6
  | 7, _, _ => exact zRs_7
  | 8, _, _ => exact zRs_8
  | 9, _, _ => exact zRs_9
  | 10, _, _ => exact zRs_10
set_option maxRecDepth 1000000 in
set_option maxHeartbeats 4000000 in
theorem o_7 (a : Nat → Int32) : lOweK 57 w0e 7 a := by
  show lOweI 57 w0e 122 253 [.int (a 1)]
  have hl1 := Int32.le_toInt (a 1)
  have hg1 := Int32.toInt_lt (a 1)
  rcases izc (a 1).toInt 1 with h1 | h1
  · exact zBox_I (n := 1000000) (as := [.inr (.inr (.inr (.inl [(1, [0])])))]) (bs := [(-2147483648, 0)]) (T := []) (l := [(a 1).toInt]) (by decide) (by decide) (by decide +kernel) ⟨⟨by omega, by omega⟩, trivial⟩ trivial (yT_k (yV_v (j := 0) rfl) trivial)
  rcases izc (a 1).toInt 11 with h2 | h2
  · have e1 := i_nI (i := a 1) rfl (by omega)
    rw [e1]
    exact ref_n (by omega) (by omega) zCl0_k zKp_k zRs_k
  · exact zBox_I (n := 1000000) (as := [.inr (.inr (.inr (.inl [(1, [0])])))]) (bs := [(11, 2147483647)]) (T := []) (l := [(a 1).toInt]) (by decide) (by decide) (by decide +kernel) ⟨⟨by omega, by omega⟩, trivial⟩ trivial (yT_k (yV_v (j := 0) rfl) trivial)
/-! EVERY CALL AS IT IS OWED. What is still open says so. -/
theorem paid_all (k : Nat) (a : Nat → Int32) : lOweK 57 w0e k a := by
  match k with
  | 0 => exact o_0 a
  | 1 => exact o_1 a
  | 2 => exact o_2 a
  | 3 => exact o_3 a
  | 4 => exact o_4 a
  | 5 => exact o_5 a
  | 6 => exact o_6 a
  | 7 => exact o_7 a
  | 8 => exact o_8 a
  | 9 => exact o_9 a
  | 10 => exact o_10 a
  | 11 => exact o_11 a
  | 12 => exact o_12 a
  | 13 => exact o_13 a
  | 14 => exact o_14 a
  | 15 => exact o_15 a
  | 16 => exact o_16 a
  | 17 => exact o_17 a
  | 18 => exact o_18 a
  | 19 => exact o_19 a
  | 20 => exact o_20 a
  | 21 => exact o_21 a
  | 22 => exact o_22 a
  | 23 => exact o_23 a
  | 24 => exact o_24 a
  | 25 => exact o_25 a
  | 26 => exact o_26 a
  | 27 => exact o_27 a
  | 28 => exact o_28 a
  | 29 => exact o_29 a
  | 30 => exact o_30 a
  | 31 => exact o_31 a
  | 32 => exact o_32 a
  | 33 => exact o_33 a
  | 34 => exact o_34 a
  | 35 => exact o_35 a
  | 36 => exact o_36 a
  | 37 => exact o_37 a
  | 38 => exact o_38 a
  | 39 => exact o_39 a
  | 40 => exact o_40 a
  | 41 => exact o_41 a
  | 42 => exact o_42 a
  | 43 => exact o_43 a
  | 44 => exact o_44 a
  | 45 => exact o_45 a
  | 46 => exact o_46 a
  | 47 => exact o_47 a
  | 48 => exact o_48 a
  | 49 => exact o_49 a
  | 50 => exact o_50 a
  | 51 => exact o_51 a
  | 52 => exact o_52 a
  | 53 => exact o_53 a
  | 54 => exact o_54 a
  | 55 => exact o_55 a
  | 56 => exact o_56 a
  | 57 => exact o_57 a
  | 58 => exact o_58 a
  | 59 => exact o_59 a
  | k + 60 => exact trivial
theorem paid : ∃ wA w0 : pW, lOwed wA w0 := paid_of paid_all
/-- YOUR PART: from the entry, for every script of at most 6 ints, the law comes to its end with true ('hflags': the launch's flags, for a law that throws: no stack traces) -/
theorem whole_start {p : Program} {e : Env} {s : State} {m : MethodId} {below : List Frame} {meth : Method} {c : Code} (l : Launch) (hflags : l.flags = flags0) {b L : Nat} {xs : Nat → Int32} (hL : L ≤ 6) (C0 : lw_At p s m meth c b L xs) : W p l e room_1 s m #[Value.ref b] below meth c s.heap [] 0 0 (lw_Z below #[Value.ref b] s) (entryFrame m ([Value.ref b] : List Value).toArray 4) := by
  obtain ⟨wA, w0, h⟩ := paid
  exact whole_start_of l hL C0 h
set_option maxHeartbeats 4000000 in
theorem lw_walk (l : Launch) (hflags : l.flags = flags0) (b : Addr) (xs : List Int32) : MetFree l x (headSpec (Jvm.Cond.code x code maxLocals ret :: tables_1) room_1) (lw_P b xs) (fun _ _ _ _ _ => True) lw_Q := by
  refine MetFree.of_bodyS (code := code) (maxLocals := maxLocals) (ret := ret) (by decide) ?_ ?_
  · intro args s m h hn
    obtain ⟨meth, c, h1, h2, h3, h4, h5, h6, -, -⟩ := Cond.code_spec hn (atoms_spec (ws := Jvm.Cond.code x code maxLocals ret :: tables_1) h _ List.mem_cons_self)
    exact ⟨meth, c, h1, h2, h3, h4, h5, h6⟩
  · intro p e s m args below meth c s₁ B hml0 hP _
    obtain ⟨rfl, hx, hbd, hgv⟩ := hP
    obtain ⟨scr, harrAt, hlist, hof, hsmall⟩ := hx
    obtain ⟨hcb, hkn, -, -⟩ := State.arrayAt?_spec harrAt
    have hown : s.vm.findClass R_law = some m.cls := findClass_of_methodNamed B.named
    have hts0 : ∀ c ∈ (Jvm.Cond.code x code maxLocals ret :: tables_1), c.before #[Value.ref b] s = true := atoms_spec (ws := Jvm.Cond.code x code maxLocals ret :: tables_1) B.pre
    have hts : ∀ w ∈ lw_tbl, w.before #[Value.ref b] s = true := k2_hts_sels lw_privs (fun w hw => hts0 w (List.mem_cons_of_mem _ hw)) lw_privs_ok
    have hml : c.maxLocals = 4 := B.maxLocals_eq (hts0 _ List.mem_cons_self)
    have X₀ : Stand p l e room_1 s m #[Value.ref b] below meth c s₁ [] 0 0 := Stand.of_body B
    have hh0 : s₁.heap = s.heap := by rw [B.state]; rfl
    have hsz : scr.slots.size = xs.length := by rw [← Array.length_toList, hlist, List.length_map]
    have hval : ∀ j : Nat, j < xs.length → scr.slots[j]? = some (.int (xs.getD j 0)) := fun j hj => by
      rw [← Array.getElem?_toList, hlist]
      simp [hj]
    have hbl : b < s.heap.size := (Array.getElem?_eq_some_iff.mp hcb).1
    have hX : va_X b xs.length (fun j => xs.getD j 0) s s.heap := ⟨scr, hcb, hof, hkn, hsz, hval⟩
    have K : W p l e room_1 s m #[Value.ref b] below meth c s₁.heap [] 0 0 (lw_Z below #[Value.ref b] s) (entryFrame m ([Value.ref b] : List Value).toArray 4) := by
      rw [hh0]
      exact whole_start l hflags hbd ⟨B.exec, B.bytes, B.returns, hml, hown, hts, hX, hbl, B.notSynchronized, hgv⟩
    obtain ⟨t, a1, o, b1, b2, b3⟩ := K s₁ rfl X₀
    exact ⟨t, o, a1, b1, b2, b3⟩
theorem lw_pre_spec {args : Array Value} {s : State} (h : (Jvm.Cond.and given_1 narrow_1).before args s = true) (hr : rest_1_c.before args s = true) : ∃ (b : Addr) (xs : List Int32), lw_P b xs args s := by
  have hs := flat_of_before _ h
  have hq := flat_of_before _ hr
  have hc : (Cond.count 1).before args s = true := hs _ (by decide +kernel)
  have harr : (Cond.arrayOf (.arg 0) .int).before args s = true := hs _ (by decide +kernel)
  have hle : (Cond.le (.length (.arg 0)) (.int 6)).before args s = true := hs _ (by decide +kernel)
  have hlen : (Cond.isInt (.length (.arg 0))).before args s = true := hq _ (by decide +kernel)
  have hall : (Cond.all (.arg 0) (.isInt (.elem (.arg 0) (.index 0)))).before args s = true := hq _ (by decide +kernel)
  obtain ⟨b, xs, hb, hx⟩ := State.ints_of_pre rfl harr hlen hall
  have hsm : xs.length < 2 ^ 31 := hx.choose_spec.2.2.2
  have hev : (Term.length (.arg 0)).eval args s none [] s = some (.int xs.length.toInt32) := hx.length_eval hb
  have hv := Cond.le_ints hev (show (Term.int 6).eval args s none [] s = some (.int 6) from rfl)
  have hd : xs.length.toInt32 ≤ 6 := by
    simpa [Cond.before, Cond.holds, hv] using hle
  have hN : xs.length ≤ 6 := (Int32.ofNat_le_ofNat hsm (by decide)).mp (show Int32.ofNat xs.length ≤ Int32.ofNat 6 from hd)
  exact ⟨b, xs, Cond.one_arg hc (show args[0]? = some (.ref b) from hb), hx, hN, h⟩
theorem lw_comes (l : Launch) (hflags : l.flags = flags0) : Comes l x (Jvm.Cond.code x code maxLocals ret :: tables_1) room_1 (fun tb e args s => Calls_1 tb e args s ∧ rest_1 tb e args s ∧ Pre_1 tb e args s)
    (fun _ _ args s o t => lw_Q args s o t) := by
  intro p e ha hc hk s m args below hf hfit hheap happ hpre
  obtain ⟨b, xs, hP⟩ := lw_pre_spec hpre.2.2 hpre.2.1
  obtain ⟨k, o, h1, h2, h3, hQ⟩ := lw_walk l hflags b xs p e ha hc hk s m args below hf ((Spec.applies_iff_loose hf).mp happ).1 hP trivial
  exact ⟨k, o, h1, h2, h3, hQ⟩
theorem lw_frame {s t : State} {o : Outcome} {args : Array Value} (h : State.butDraws s t lw_cs (fun t1 => Framed s o t1 [] 600000 7302250)) :
    State.butDraws s t [Jvm.Choice.named "NaN.bits"] (fun t1 => Framed s o t1 (fieldLocs frame_1_writes args s ++ arrayLocs frame_1_arrays args s ++ staticLocs frame_1_statics s) 600000 7302250) := h
theorem lw_limb (L : Cond) (hL : ∀ (args : Array Value) (s t : State), L.after args s (.returned (some (.int 1))) t = true) :
    ArmFor flags0 classFile x code maxLocals ret World_1 tables_1 room_1 Calls_1 rest_1 Pre_1
      (fun tb e a s o t => postC L tb e a s o t ∧ State.butDraws s t [Jvm.Choice.named "NaN.bits"] (fun t1 => Framed s o t1 (fieldLocs frame_1_writes a s ++ arrayLocs frame_1_arrays a s ++ staticLocs frame_1_statics s) 600000 7302250)) := by
  intro l hflags _ _ p e ha hc hk s m args below hf hfit hheap happ hpre
  obtain ⟨k, o, h1, h2, h3, rfl, hF⟩ := lw_comes l hflags p e ha hc hk s m args below hf hfit hheap happ hpre
  exact ⟨k, _, h1, h2, h3, hL args s _, lw_frame hF⟩
theorem i_vc : Claimed_1_1 ∧ Claimed_1_2 := ⟨lw_limb limb_1_1 (fun args s t => by simp [limb_1_1, Cond.after, Cond.holds, Cond.value]), lw_limb limb_1_2 (fun args s t => Cond.after_iff.mpr (by
  first | (rw [show limb_1_2 = Cond.eq .result (.int 1) from rfl, Cond.eq_ints (x := 1) (y := 1) rfl rfl]; simp; done) | (simp [limb_1_2, Cond.value, Term.eval]; done)))⟩
