/-! DRAWN, its arguments split. By program (wip/tools/mk96n.py). -/
set_option maxRecDepth 1000000 in
set_option maxHeartbeats 4000000 in
theorem o_5 (a : Nat → Int32) : lOweK 57 w0e 5 a := by
  show lOweI 57 w0e 120 245 [.int (a 1), .int (a 2)]
  have hl1 := Int32.le_toInt (a 1)
  have hg1 := Int32.toInt_lt (a 1)
  have hl2 := Int32.le_toInt (a 2)
  have hg2 := Int32.toInt_lt (a 2)
  rcases izc (a 1).toInt 1 with h1 | h1
  · exact zBox_I (n := 1000000) (as := [.inr (.inr (.inr (.inl [(1, [0])]))), .inr (.inr (.inr (.inl [(1, [1])])))]) (bs := [(-2147483648, 0), (-2147483648, 2147483647)]) (T := []) (l := [(a 1).toInt, (a 2).toInt]) (by decide) (by decide) (by decide +kernel) ⟨⟨by omega, by omega⟩, ⟨by omega, by omega⟩, trivial⟩ trivial (yT_k (yV_v (j := 0) rfl) (yT_k (yV_v (j := 1) rfl) trivial))
  rcases izc (a 1).toInt 21 with h2 | h2
  · rcases izc (a 2).toInt 1 with h3 | h3
    · exact zBox_I (n := 1000000) (as := [.inr (.inr (.inr (.inl [(1, [0])]))), .inr (.inr (.inr (.inl [(1, [1])])))]) (bs := [(1, 20), (-2147483648, 0)]) (T := []) (l := [(a 1).toInt, (a 2).toInt]) (by decide) (by decide) (by decide +kernel) ⟨⟨by omega, by omega⟩, ⟨by omega, by omega⟩, trivial⟩ trivial (yT_k (yV_v (j := 0) rfl) (yT_k (yV_v (j := 1) rfl) trivial))
    rcases izc (a 2).toInt 1001 with h4 | h4
    · have e1 := i_nI (i := a 1) rfl (by omega)
      have e2 := i_nI (i := a 2) rfl (by omega)
      rw [e1, e2]
      exact o5_num (n := (a 1).toInt.toNat) (m := (a 2).toInt.toNat) (by omega) (by omega) (by omega) (by omega)
    · exact zBox_I (n := 1000000) (as := [.inr (.inr (.inr (.inl [(1, [0])]))), .inr (.inr (.inr (.inl [(1, [1])])))]) (bs := [(1, 20), (1001, 2147483647)]) (T := []) (l := [(a 1).toInt, (a 2).toInt]) (by decide) (by decide) (by decide +kernel) ⟨⟨by omega, by omega⟩, ⟨by omega, by omega⟩, trivial⟩ trivial (yT_k (yV_v (j := 0) rfl) (yT_k (yV_v (j := 1) rfl) trivial))
  · exact zBox_I (n := 1000000) (as := [.inr (.inr (.inr (.inl [(1, [0])]))), .inr (.inr (.inr (.inl [(1, [1])])))]) (bs := [(21, 2147483647), (-2147483648, 2147483647)]) (T := []) (l := [(a 1).toInt, (a 2).toInt]) (by decide) (by decide) (by decide +kernel) ⟨⟨by omega, by omega⟩, ⟨by omega, by omega⟩, trivial⟩ trivial (yT_k (yV_v (j := 0) rfl) (yT_k (yV_v (j := 1) rfl) trivial))
