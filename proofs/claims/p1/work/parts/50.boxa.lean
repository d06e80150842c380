/-! CALLS RUN THROUGH BY THE KERNEL, their arguments in boxes. By program (wip/tools/mk50.py). -/
-- smooth
set_option maxRecDepth 1000000 in
set_option maxHeartbeats 4000000 in
theorem o_8 (a : Nat → Int32) : lOweK 57 w0e 8 a := by
  show lOweI 57 w0e 124 255 []
  exact zBox_I (n := 1000000) (as := []) (bs := []) (T := []) (l := []) (by decide) (by decide) (by decide +kernel) trivial trivial (trivial)
-- fill
set_option maxRecDepth 1000000 in
set_option maxHeartbeats 4000000 in
theorem o_10 (a : Nat → Int32) : lOweK 57 w0e 10 a := by
  show lOweI 57 w0e 127 227 []
  exact zBox_I (n := 1000000) (as := []) (bs := []) (T := []) (l := []) (by decide) (by decide) (by decide +kernel) trivial trivial (trivial)
-- tell
set_option maxRecDepth 1000000 in
set_option maxHeartbeats 4000000 in
theorem o_11 (a : Nat → Int32) : lOweK 57 w0e 11 a := by
  show lOweI 57 w0e 128 256 [.int (a 1)]
  have hl0 := Int32.le_toInt (a 1)
  have hg0 := Int32.toInt_lt (a 1)
  rcases izc (a 1).toInt (0) with h1 | h1
  · skip
    exact zBox_I (n := 1000000) (as := [.inr (.inr (.inr (.inl [(1, [0])])))]) (bs := [(-2147483648, -1)]) (T := []) (l := [(a 1).toInt]) (by decide) (by decide) (by decide +kernel) ⟨⟨by omega, by omega⟩, trivial⟩ trivial (yT_k (yV_v (j := 0) rfl) trivial)
  · skip
    rcases izc (a 1).toInt (30047) with h2 | h2
    · skip
      exact zBox_I (n := 1000000) (as := [.inr (.inr (.inr (.inl [(1, [0])])))]) (bs := [(0, 30046)]) (T := []) (l := [(a 1).toInt]) (by decide) (by decide) (by decide +kernel) ⟨⟨by omega, by omega⟩, trivial⟩ trivial (yT_k (yV_v (j := 0) rfl) trivial)
    · skip
      exact zBox_I (n := 1000000) (as := [.inr (.inr (.inr (.inl [(1, [0])])))]) (bs := [(30047, 2147483647)]) (T := []) (l := [(a 1).toInt]) (by decide) (by decide) (by decide +kernel) ⟨⟨by omega, by omega⟩, trivial⟩ trivial (yT_k (yV_v (j := 0) rfl) trivial)
-- undo
set_option maxRecDepth 1000000 in
set_option maxHeartbeats 4000000 in
theorem o_12 (a : Nat → Int32) : lOweK 57 w0e 12 a := by
  show lOweI 57 w0e 129 228 []
  exact zBox_I (n := 1000000) (as := []) (bs := []) (T := []) (l := []) (by decide) (by decide) (by decide +kernel) trivial trivial (trivial)
-- corner
set_option maxRecDepth 1000000 in
set_option maxHeartbeats 4000000 in
theorem o_16 (a : Nat → Int32) : lOweK 57 w0e 16 a := by
  show lOweI 57 w0e 138 265 [.int (a 1), .int (a 2)]
  have hl0 := Int32.le_toInt (a 1)
  have hg0 := Int32.toInt_lt (a 1)
  have hl1 := Int32.le_toInt (a 2)
  have hg1 := Int32.toInt_lt (a 2)
  rcases izc (a 1).toInt (0) with h1 | h1
  · skip
    exact zBox_I (n := 1000000) (as := [.inr (.inr (.inr (.inl [(1, [0])]))), .inr (.inr (.inr (.inl [(1, [1])])))]) (bs := [(-2147483648, -1), (-2147483648, 2147483647)]) (T := []) (l := [(a 1).toInt, (a 2).toInt]) (by decide) (by decide) (by decide +kernel) ⟨⟨by omega, by omega⟩, ⟨by omega, by omega⟩, trivial⟩ trivial (yT_k (yV_v (j := 0) rfl) (yT_k (yV_v (j := 1) rfl) trivial))
  · skip
    rcases izc (a 1).toInt (2) with h2 | h2
    · skip
      rcases izc (a 2).toInt (0) with h3 | h3
      · skip
        exact zBox_I (n := 1000000) (as := [.inr (.inr (.inr (.inl [(1, [0])]))), .inr (.inr (.inr (.inl [(1, [1])])))]) (bs := [(0, 1), (-2147483648, -1)]) (T := []) (l := [(a 1).toInt, (a 2).toInt]) (by decide) (by decide) (by decide +kernel) ⟨⟨by omega, by omega⟩, ⟨by omega, by omega⟩, trivial⟩ trivial (yT_k (yV_v (j := 0) rfl) (yT_k (yV_v (j := 1) rfl) trivial))
      · skip
        rcases izc (a 2).toInt (3) with h4 | h4
        · skip
          rcases izc (a 1).toInt (1) with h5 | h5
          · skip
            rcases izc (a 2).toInt (1) with h6 | h6
            · skip
              exact zBox_I (n := 1000000) (as := [.inl 0, .inl 0]) (bs := []) (T := []) (l := []) (by decide) (by decide) (by decide +kernel) trivial trivial (yT_k (yV_c (c := 0) (by decide) (by decide) (by omega)) (yT_k (yV_c (c := 0) (by decide) (by decide) (by omega)) trivial))
            · skip
              rcases izc (a 2).toInt (2) with h7 | h7
              · skip
                exact zBox_I (n := 1000000) (as := [.inl 0, .inl 1]) (bs := []) (T := []) (l := []) (by decide) (by decide) (by decide +kernel) trivial trivial (yT_k (yV_c (c := 0) (by decide) (by decide) (by omega)) (yT_k (yV_c (c := 1) (by decide) (by decide) (by omega)) trivial))
              · skip
                exact zBox_I (n := 1000000) (as := [.inl 0, .inl 2]) (bs := []) (T := []) (l := []) (by decide) (by decide) (by decide +kernel) trivial trivial (yT_k (yV_c (c := 0) (by decide) (by decide) (by omega)) (yT_k (yV_c (c := 2) (by decide) (by decide) (by omega)) trivial))
          · skip
            rcases izc (a 2).toInt (1) with h6 | h6
            · skip
              exact zBox_I (n := 1000000) (as := [.inl 1, .inl 0]) (bs := []) (T := []) (l := []) (by decide) (by decide) (by decide +kernel) trivial trivial (yT_k (yV_c (c := 1) (by decide) (by decide) (by omega)) (yT_k (yV_c (c := 0) (by decide) (by decide) (by omega)) trivial))
            · skip
              rcases izc (a 2).toInt (2) with h7 | h7
              · skip
                exact zBox_I (n := 1000000) (as := [.inl 1, .inl 1]) (bs := []) (T := []) (l := []) (by decide) (by decide) (by decide +kernel) trivial trivial (yT_k (yV_c (c := 1) (by decide) (by decide) (by omega)) (yT_k (yV_c (c := 1) (by decide) (by decide) (by omega)) trivial))
              · skip
                exact zBox_I (n := 1000000) (as := [.inl 1, .inl 2]) (bs := []) (T := []) (l := []) (by decide) (by decide) (by decide +kernel) trivial trivial (yT_k (yV_c (c := 1) (by decide) (by decide) (by omega)) (yT_k (yV_c (c := 2) (by decide) (by decide) (by omega)) trivial))
        · skip
          exact zBox_I (n := 1000000) (as := [.inr (.inr (.inr (.inl [(1, [0])]))), .inr (.inr (.inr (.inl [(1, [1])])))]) (bs := [(0, 1), (3, 2147483647)]) (T := []) (l := [(a 1).toInt, (a 2).toInt]) (by decide) (by decide) (by decide +kernel) ⟨⟨by omega, by omega⟩, ⟨by omega, by omega⟩, trivial⟩ trivial (yT_k (yV_v (j := 0) rfl) (yT_k (yV_v (j := 1) rfl) trivial))
    · skip
      exact zBox_I (n := 1000000) (as := [.inr (.inr (.inr (.inl [(1, [0])]))), .inr (.inr (.inr (.inl [(1, [1])])))]) (bs := [(2, 2147483647), (-2147483648, 2147483647)]) (T := []) (l := [(a 1).toInt, (a 2).toInt]) (by decide) (by decide) (by decide +kernel) ⟨⟨by omega, by omega⟩, ⟨by omega, by omega⟩, trivial⟩ trivial (yT_k (yV_v (j := 0) rfl) (yT_k (yV_v (j := 1) rfl) trivial))
-- beyond
set_option maxRecDepth 1000000 in
set_option maxHeartbeats 4000000 in
theorem o_17 (a : Nat → Int32) : lOweK 57 w0e 17 a := by
  show lOweI 57 w0e 139 267 [.int (a 1), .int (a 2)]
  have hl0 := Int32.le_toInt (a 1)
  have hg0 := Int32.toInt_lt (a 1)
  have hl1 := Int32.le_toInt (a 2)
  have hg1 := Int32.toInt_lt (a 2)
  rcases izc (a 1).toInt (0) with h1 | h1
  · skip
    exact zBox_I (n := 1000000) (as := [.inr (.inr (.inr (.inl [(1, [0])]))), .inr (.inr (.inr (.inl [(1, [1])])))]) (bs := [(-2147483648, -1), (-2147483648, 2147483647)]) (T := []) (l := [(a 1).toInt, (a 2).toInt]) (by decide) (by decide) (by decide +kernel) ⟨⟨by omega, by omega⟩, ⟨by omega, by omega⟩, trivial⟩ trivial (yT_k (yV_v (j := 0) rfl) (yT_k (yV_v (j := 1) rfl) trivial))
  · skip
    rcases izc (a 1).toInt (2) with h2 | h2
    · skip
      rcases izc (a 2).toInt (0) with h3 | h3
      · skip
        exact zBox_I (n := 1000000) (as := [.inr (.inr (.inr (.inl [(1, [0])]))), .inr (.inr (.inr (.inl [(1, [1])])))]) (bs := [(0, 1), (-2147483648, -1)]) (T := []) (l := [(a 1).toInt, (a 2).toInt]) (by decide) (by decide) (by decide +kernel) ⟨⟨by omega, by omega⟩, ⟨by omega, by omega⟩, trivial⟩ trivial (yT_k (yV_v (j := 0) rfl) (yT_k (yV_v (j := 1) rfl) trivial))
      · skip
        rcases izc (a 2).toInt (3) with h4 | h4
        · skip
          rcases izc (a 2).toInt (1) with h5 | h5
          · skip
            rcases izc (a 1).toInt (1) with h6 | h6
            · skip
              exact zBox_I (n := 1000000) (as := [.inl 0, .inl 0]) (bs := []) (T := []) (l := []) (by decide) (by decide) (by decide +kernel) trivial trivial (yT_k (yV_c (c := 0) (by decide) (by decide) (by omega)) (yT_k (yV_c (c := 0) (by decide) (by decide) (by omega)) trivial))
            · skip
              exact zBox_I (n := 1000000) (as := [.inl 1, .inl 0]) (bs := []) (T := []) (l := []) (by decide) (by decide) (by decide +kernel) trivial trivial (yT_k (yV_c (c := 1) (by decide) (by decide) (by omega)) (yT_k (yV_c (c := 0) (by decide) (by decide) (by omega)) trivial))
          · skip
            rcases izc (a 2).toInt (2) with h6 | h6
            · skip
              rcases izc (a 1).toInt (1) with h7 | h7
              · skip
                exact zBox_I (n := 1000000) (as := [.inl 0, .inl 1]) (bs := []) (T := []) (l := []) (by decide) (by decide) (by decide +kernel) trivial trivial (yT_k (yV_c (c := 0) (by decide) (by decide) (by omega)) (yT_k (yV_c (c := 1) (by decide) (by decide) (by omega)) trivial))
              · skip
                exact zBox_I (n := 1000000) (as := [.inl 1, .inl 1]) (bs := []) (T := []) (l := []) (by decide) (by decide) (by decide +kernel) trivial trivial (yT_k (yV_c (c := 1) (by decide) (by decide) (by omega)) (yT_k (yV_c (c := 1) (by decide) (by decide) (by omega)) trivial))
            · skip
              rcases izc (a 1).toInt (1) with h7 | h7
              · skip
                exact zBox_I (n := 1000000) (as := [.inl 0, .inl 2]) (bs := []) (T := []) (l := []) (by decide) (by decide) (by decide +kernel) trivial trivial (yT_k (yV_c (c := 0) (by decide) (by decide) (by omega)) (yT_k (yV_c (c := 2) (by decide) (by decide) (by omega)) trivial))
              · skip
                exact zBox_I (n := 1000000) (as := [.inl 1, .inl 2]) (bs := []) (T := []) (l := []) (by decide) (by decide) (by decide +kernel) trivial trivial (yT_k (yV_c (c := 1) (by decide) (by decide) (by omega)) (yT_k (yV_c (c := 2) (by decide) (by decide) (by omega)) trivial))
        · skip
          exact zBox_I (n := 1000000) (as := [.inr (.inr (.inr (.inl [(1, [0])]))), .inr (.inr (.inr (.inl [(1, [1])])))]) (bs := [(0, 1), (3, 2147483647)]) (T := []) (l := [(a 1).toInt, (a 2).toInt]) (by decide) (by decide) (by decide +kernel) ⟨⟨by omega, by omega⟩, ⟨by omega, by omega⟩, trivial⟩ trivial (yT_k (yV_v (j := 0) rfl) (yT_k (yV_v (j := 1) rfl) trivial))
    · skip
      exact zBox_I (n := 1000000) (as := [.inr (.inr (.inr (.inl [(1, [0])]))), .inr (.inr (.inr (.inl [(1, [1])])))]) (bs := [(2, 2147483647), (-2147483648, 2147483647)]) (T := []) (l := [(a 1).toInt, (a 2).toInt]) (by decide) (by decide) (by decide +kernel) ⟨⟨by omega, by omega⟩, ⟨by omega, by omega⟩, trivial⟩ trivial (yT_k (yV_v (j := 0) rfl) (yT_k (yV_v (j := 1) rfl) trivial))
-- area
set_option maxRecDepth 1000000 in
set_option maxHeartbeats 4000000 in
theorem o_18 (a : Nat → Int32) : lOweK 57 w0e 18 a := by
  show lOweI 57 w0e 140 268 [.int (a 1)]
  have hl0 := Int32.le_toInt (a 1)
  have hg0 := Int32.toInt_lt (a 1)
  rcases izc (a 1).toInt (0) with h1 | h1
  · skip
    exact zBox_I (n := 1000000) (as := [.inr (.inr (.inr (.inl [(1, [0])])))]) (bs := [(-2147483648, -1)]) (T := []) (l := [(a 1).toInt]) (by decide) (by decide) (by decide +kernel) ⟨⟨by omega, by omega⟩, trivial⟩ trivial (yT_k (yV_v (j := 0) rfl) trivial)
  · skip
    rcases izc (a 1).toInt (2) with h2 | h2
    · skip
      rcases izc (a 1).toInt (1) with h3 | h3
      · skip
        exact zBox_I (n := 1000000) (as := [.inl 0]) (bs := []) (T := []) (l := []) (by decide) (by decide) (by decide +kernel) trivial trivial (yT_k (yV_c (c := 0) (by decide) (by decide) (by omega)) trivial)
      · skip
        exact zBox_I (n := 1000000) (as := [.inl 1]) (bs := []) (T := []) (l := []) (by decide) (by decide) (by decide +kernel) trivial trivial (yT_k (yV_c (c := 1) (by decide) (by decide) (by omega)) trivial)
    · skip
      exact zBox_I (n := 1000000) (as := [.inr (.inr (.inr (.inl [(1, [0])])))]) (bs := [(2, 2147483647)]) (T := []) (l := [(a 1).toInt]) (by decide) (by decide) (by decide +kernel) ⟨⟨by omega, by omega⟩, trivial⟩ trivial (yT_k (yV_v (j := 0) rfl) trivial)
