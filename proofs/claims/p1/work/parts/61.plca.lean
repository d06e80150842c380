/-! CALLS WITH PLACES, RUN THROUGH BY THE KERNEL. By program (wip/tools/mk60.py). -/
-- at
set_option maxRecDepth 1000000 in
set_option maxHeartbeats 8000000 in
theorem o_15 (a : Nat → Int32) : lOweK 57 w0e 15 a := by
  show lOweI 57 w0e 137 263 [.int (a 1), .int (a 2)]
  have hl0 := Int32.le_toInt (a 1)
  have hg0 := Int32.toInt_lt (a 1)
  have hl1 := Int32.le_toInt (a 2)
  have hg1 := Int32.toInt_lt (a 2)
  rcases izc (a 1).toInt (-1000) with h1 | h1
  · skip
    exact zBox_I (n := 1000000) (as := [.inr (.inr (.inr (.inl [(1, [0])]))), .inr (.inr (.inr (.inl [(1, [1])])))]) (bs := [(-2147483648, -1001), (-2147483648, 2147483647)]) (T := []) (l := [(a 1).toInt, (a 2).toInt]) (by decide) (by decide) (by decide +kernel) ⟨⟨by omega, by omega⟩, ⟨by omega, by omega⟩, trivial⟩ trivial (yT_k (yV_v (j := 0) rfl) (yT_k (yV_v (j := 1) rfl) trivial))
  · skip
    rcases izc (a 1).toInt (-999) with h2 | h2
    · skip
      rcases izc (a 2).toInt (-1000) with h3 | h3
      · skip
        exact zBox_I (n := 1000000) (as := [.inl 4294966296, .inr (.inr (.inr (.inl [(1, [1])])))]) (bs := [(-1000, -1000), (-2147483648, -1001)]) (T := []) (l := [(a 1).toInt, (a 2).toInt]) (by decide) (by decide) (by decide +kernel) ⟨⟨by omega, by omega⟩, ⟨by omega, by omega⟩, trivial⟩ trivial (yT_k (yV_c (c := -1000) (by decide) (by decide) (by omega)) (yT_k (yV_v (j := 1) rfl) trivial))
      · skip
        rcases izc (a 2).toInt (-999) with h4 | h4
        · skip
          exact zBox_I (n := 1000000) (as := [.inl 4294966296, .inl 4294966296]) (bs := [(-1000, -1000), (-1000, -1000)]) (T := []) (l := [(a 1).toInt, (a 2).toInt]) (by decide) (by decide) (by decide +kernel) ⟨⟨by omega, by omega⟩, ⟨by omega, by omega⟩, trivial⟩ trivial (yT_k (yV_c (c := -1000) (by decide) (by decide) (by omega)) (yT_k (yV_c (c := -1000) (by decide) (by decide) (by omega)) trivial))
        · skip
          rcases izc (a 2).toInt (1000) with h5 | h5
          · skip
            exact zBox_I (n := 1000000) (as := [.inl 4294966296, .inr (.inr (.inr (.inl [(1, [1])])))]) (bs := [(-1000, -1000), (-999, 999)]) (T := []) (l := [(a 1).toInt, (a 2).toInt]) (by decide) (by decide) (by decide +kernel) ⟨⟨by omega, by omega⟩, ⟨by omega, by omega⟩, trivial⟩ trivial (yT_k (yV_c (c := -1000) (by decide) (by decide) (by omega)) (yT_k (yV_v (j := 1) rfl) trivial))
          · skip
            rcases izc (a 2).toInt (1001) with h6 | h6
            · skip
              exact zBox_I (n := 1000000) (as := [.inl 4294966296, .inl 1000]) (bs := [(-1000, -1000), (1000, 1000)]) (T := []) (l := [(a 1).toInt, (a 2).toInt]) (by decide) (by decide) (by decide +kernel) ⟨⟨by omega, by omega⟩, ⟨by omega, by omega⟩, trivial⟩ trivial (yT_k (yV_c (c := -1000) (by decide) (by decide) (by omega)) (yT_k (yV_c (c := 1000) (by decide) (by decide) (by omega)) trivial))
            · skip
              exact zBox_I (n := 1000000) (as := [.inl 4294966296, .inr (.inr (.inr (.inl [(1, [1])])))]) (bs := [(-1000, -1000), (1001, 2147483647)]) (T := []) (l := [(a 1).toInt, (a 2).toInt]) (by decide) (by decide) (by decide +kernel) ⟨⟨by omega, by omega⟩, ⟨by omega, by omega⟩, trivial⟩ trivial (yT_k (yV_c (c := -1000) (by decide) (by decide) (by omega)) (yT_k (yV_v (j := 1) rfl) trivial))
    · skip
      rcases izc (a 1).toInt (1000) with h3 | h3
      · skip
        exact zBox_I (n := 1000000) (as := [.inr (.inr (.inr (.inl [(1, [0])]))), .inr (.inr (.inr (.inl [(1, [1])])))]) (bs := [(-999, 999), (-2147483648, 2147483647)]) (T := []) (l := [(a 1).toInt, (a 2).toInt]) (by decide) (by decide) (by decide +kernel) ⟨⟨by omega, by omega⟩, ⟨by omega, by omega⟩, trivial⟩ trivial (yT_k (yV_v (j := 0) rfl) (yT_k (yV_v (j := 1) rfl) trivial))
      · skip
        rcases izc (a 1).toInt (1001) with h4 | h4
        · skip
          rcases izc (a 2).toInt (-1000) with h5 | h5
          · skip
            exact zBox_I (n := 1000000) (as := [.inl 1000, .inr (.inr (.inr (.inl [(1, [1])])))]) (bs := [(1000, 1000), (-2147483648, -1001)]) (T := []) (l := [(a 1).toInt, (a 2).toInt]) (by decide) (by decide) (by decide +kernel) ⟨⟨by omega, by omega⟩, ⟨by omega, by omega⟩, trivial⟩ trivial (yT_k (yV_c (c := 1000) (by decide) (by decide) (by omega)) (yT_k (yV_v (j := 1) rfl) trivial))
          · skip
            rcases izc (a 2).toInt (-999) with h6 | h6
            · skip
              exact zBox_I (n := 1000000) (as := [.inl 1000, .inl 4294966296]) (bs := [(1000, 1000), (-1000, -1000)]) (T := []) (l := [(a 1).toInt, (a 2).toInt]) (by decide) (by decide) (by decide +kernel) ⟨⟨by omega, by omega⟩, ⟨by omega, by omega⟩, trivial⟩ trivial (yT_k (yV_c (c := 1000) (by decide) (by decide) (by omega)) (yT_k (yV_c (c := -1000) (by decide) (by decide) (by omega)) trivial))
            · skip
              rcases izc (a 2).toInt (1000) with h7 | h7
              · skip
                exact zBox_I (n := 1000000) (as := [.inl 1000, .inr (.inr (.inr (.inl [(1, [1])])))]) (bs := [(1000, 1000), (-999, 999)]) (T := []) (l := [(a 1).toInt, (a 2).toInt]) (by decide) (by decide) (by decide +kernel) ⟨⟨by omega, by omega⟩, ⟨by omega, by omega⟩, trivial⟩ trivial (yT_k (yV_c (c := 1000) (by decide) (by decide) (by omega)) (yT_k (yV_v (j := 1) rfl) trivial))
              · skip
                rcases izc (a 2).toInt (1001) with h8 | h8
                · skip
                  exact zBox_I (n := 1000000) (as := [.inl 1000, .inl 1000]) (bs := [(1000, 1000), (1000, 1000)]) (T := []) (l := [(a 1).toInt, (a 2).toInt]) (by decide) (by decide) (by decide +kernel) ⟨⟨by omega, by omega⟩, ⟨by omega, by omega⟩, trivial⟩ trivial (yT_k (yV_c (c := 1000) (by decide) (by decide) (by omega)) (yT_k (yV_c (c := 1000) (by decide) (by decide) (by omega)) trivial))
                · skip
                  exact zBox_I (n := 1000000) (as := [.inl 1000, .inr (.inr (.inr (.inl [(1, [1])])))]) (bs := [(1000, 1000), (1001, 2147483647)]) (T := []) (l := [(a 1).toInt, (a 2).toInt]) (by decide) (by decide) (by decide +kernel) ⟨⟨by omega, by omega⟩, ⟨by omega, by omega⟩, trivial⟩ trivial (yT_k (yV_c (c := 1000) (by decide) (by decide) (by omega)) (yT_k (yV_v (j := 1) rfl) trivial))
        · skip
          exact zBox_I (n := 1000000) (as := [.inr (.inr (.inr (.inl [(1, [0])]))), .inr (.inr (.inr (.inl [(1, [1])])))]) (bs := [(1001, 2147483647), (-2147483648, 2147483647)]) (T := []) (l := [(a 1).toInt, (a 2).toInt]) (by decide) (by decide) (by decide +kernel) ⟨⟨by omega, by omega⟩, ⟨by omega, by omega⟩, trivial⟩ trivial (yT_k (yV_v (j := 0) rfl) (yT_k (yV_v (j := 1) rfl) trivial))
-- in
set_option maxRecDepth 1000000 in
set_option maxHeartbeats 8000000 in
theorem o_22 (a : Nat → Int32) : lOweK 57 w0e 22 a := by
  show lOweI 57 w0e 144 275 [.int (a 1), .int (a 2)]
  have hl0 := Int32.le_toInt (a 1)
  have hg0 := Int32.toInt_lt (a 1)
  have hl1 := Int32.le_toInt (a 2)
  have hg1 := Int32.toInt_lt (a 2)
  rcases izc (a 1).toInt (-1000) with h1 | h1
  · skip
    exact zBox_I (n := 1000000) (as := [.inr (.inr (.inr (.inl [(1, [0])]))), .inr (.inr (.inr (.inl [(1, [1])])))]) (bs := [(-2147483648, -1001), (-2147483648, 2147483647)]) (T := []) (l := [(a 1).toInt, (a 2).toInt]) (by decide) (by decide) (by decide +kernel) ⟨⟨by omega, by omega⟩, ⟨by omega, by omega⟩, trivial⟩ trivial (yT_k (yV_v (j := 0) rfl) (yT_k (yV_v (j := 1) rfl) trivial))
  · skip
    rcases izc (a 1).toInt (1000) with h2 | h2
    · skip
      rcases izc (a 2).toInt (-1000) with h3 | h3
      · skip
        exact zBox_I (n := 1000000) (as := [.inr (.inr (.inr (.inl [(1, [0])]))), .inr (.inr (.inr (.inl [(1, [1])])))]) (bs := [(-1000, 999), (-2147483648, -1001)]) (T := []) (l := [(a 1).toInt, (a 2).toInt]) (by decide) (by decide) (by decide +kernel) ⟨⟨by omega, by omega⟩, ⟨by omega, by omega⟩, trivial⟩ trivial (yT_k (yV_v (j := 0) rfl) (yT_k (yV_v (j := 1) rfl) trivial))
      · skip
        rcases izc (a 2).toInt (1000) with h4 | h4
        · skip
          rcases Int.lt_trichotomy (-1 * ((a 1).toInt) + 1 * ((a 2).toInt)) 0 with h5 | h5 | h5
          · skip
            exact zBox_I (n := 1000000) (as := [.inr (.inr (.inr (.inl [(1, [0])]))), .inr (.inr (.inr (.inl [(1, [1])])))]) (bs := [(-1000, 999), (-1000, 999)]) (T := [([(2000, [0]), (-2000, [1])], (false, false, true))]) (l := [(a 1).toInt, (a 2).toInt]) (by decide) (by decide) (by decide +kernel) ⟨⟨by omega, by omega⟩, ⟨by omega, by omega⟩, trivial⟩ ⟨sg_p (by show 0 < ((2000 : Int) * ((a 1).toInt * 1) + ((-2000 : Int) * ((a 2).toInt * 1) + 0)); (try simp only [Int.mul_one]); omega), trivial⟩ (yT_k (yV_v (j := 0) rfl) (yT_k (yV_v (j := 1) rfl) trivial))
          · skip
            exact zBox_I (n := 1000000) (as := [.inr (.inr (.inr (.inl [(1, [0])]))), .inr (.inr (.inr (.inl [(1, [1])])))]) (bs := [(-1000, 999), (-1000, 999)]) (T := [([(2000, [0]), (-2000, [1])], (false, true, false))]) (l := [(a 1).toInt, (a 2).toInt]) (by decide) (by decide) (by decide +kernel) ⟨⟨by omega, by omega⟩, ⟨by omega, by omega⟩, trivial⟩ ⟨sg_z (by show ((2000 : Int) * ((a 1).toInt * 1) + ((-2000 : Int) * ((a 2).toInt * 1) + 0)) = 0; (try simp only [Int.mul_one]); omega), trivial⟩ (yT_k (yV_v (j := 0) rfl) (yT_k (yV_v (j := 1) rfl) trivial))
          · skip
            exact zBox_I (n := 1000000) (as := [.inr (.inr (.inr (.inl [(1, [0])]))), .inr (.inr (.inr (.inl [(1, [1])])))]) (bs := [(-1000, 999), (-1000, 999)]) (T := [([(2000, [0]), (-2000, [1])], (true, false, false)), ([(-2000, [0]), (2000, [1])], (false, false, true))]) (l := [(a 1).toInt, (a 2).toInt]) (by decide) (by decide) (by decide +kernel) ⟨⟨by omega, by omega⟩, ⟨by omega, by omega⟩, trivial⟩ ⟨sg_n (by show ((2000 : Int) * ((a 1).toInt * 1) + ((-2000 : Int) * ((a 2).toInt * 1) + 0)) < 0; (try simp only [Int.mul_one]); omega), sg_p (by show 0 < ((-2000 : Int) * ((a 1).toInt * 1) + ((2000 : Int) * ((a 2).toInt * 1) + 0)); (try simp only [Int.mul_one]); omega), trivial⟩ (yT_k (yV_v (j := 0) rfl) (yT_k (yV_v (j := 1) rfl) trivial))
        · skip
          rcases izc (a 2).toInt (1001) with h5 | h5
          · skip
            exact zBox_I (n := 1000000) (as := [.inr (.inr (.inr (.inl [(1, [0])]))), .inl 1000]) (bs := [(-1000, 999), (1000, 1000)]) (T := []) (l := [(a 1).toInt, (a 2).toInt]) (by decide) (by decide) (by decide +kernel) ⟨⟨by omega, by omega⟩, ⟨by omega, by omega⟩, trivial⟩ trivial (yT_k (yV_v (j := 0) rfl) (yT_k (yV_c (c := 1000) (by decide) (by decide) (by omega)) trivial))
          · skip
            exact zBox_I (n := 1000000) (as := [.inr (.inr (.inr (.inl [(1, [0])]))), .inr (.inr (.inr (.inl [(1, [1])])))]) (bs := [(-1000, 999), (1001, 2147483647)]) (T := []) (l := [(a 1).toInt, (a 2).toInt]) (by decide) (by decide) (by decide +kernel) ⟨⟨by omega, by omega⟩, ⟨by omega, by omega⟩, trivial⟩ trivial (yT_k (yV_v (j := 0) rfl) (yT_k (yV_v (j := 1) rfl) trivial))
    · skip
      rcases izc (a 1).toInt (1001) with h3 | h3
      · skip
        rcases izc (a 2).toInt (-1000) with h4 | h4
        · skip
          exact zBox_I (n := 1000000) (as := [.inl 1000, .inr (.inr (.inr (.inl [(1, [1])])))]) (bs := [(1000, 1000), (-2147483648, -1001)]) (T := []) (l := [(a 1).toInt, (a 2).toInt]) (by decide) (by decide) (by decide +kernel) ⟨⟨by omega, by omega⟩, ⟨by omega, by omega⟩, trivial⟩ trivial (yT_k (yV_c (c := 1000) (by decide) (by decide) (by omega)) (yT_k (yV_v (j := 1) rfl) trivial))
        · skip
          rcases izc (a 2).toInt (1000) with h5 | h5
          · skip
            exact zBox_I (n := 1000000) (as := [.inl 1000, .inr (.inr (.inr (.inl [(1, [1])])))]) (bs := [(1000, 1000), (-1000, 999)]) (T := []) (l := [(a 1).toInt, (a 2).toInt]) (by decide) (by decide) (by decide +kernel) ⟨⟨by omega, by omega⟩, ⟨by omega, by omega⟩, trivial⟩ trivial (yT_k (yV_c (c := 1000) (by decide) (by decide) (by omega)) (yT_k (yV_v (j := 1) rfl) trivial))
          · skip
            rcases izc (a 2).toInt (1001) with h6 | h6
            · skip
              exact zBox_I (n := 1000000) (as := [.inl 1000, .inl 1000]) (bs := [(1000, 1000), (1000, 1000)]) (T := []) (l := [(a 1).toInt, (a 2).toInt]) (by decide) (by decide) (by decide +kernel) ⟨⟨by omega, by omega⟩, ⟨by omega, by omega⟩, trivial⟩ trivial (yT_k (yV_c (c := 1000) (by decide) (by decide) (by omega)) (yT_k (yV_c (c := 1000) (by decide) (by decide) (by omega)) trivial))
            · skip
              exact zBox_I (n := 1000000) (as := [.inl 1000, .inr (.inr (.inr (.inl [(1, [1])])))]) (bs := [(1000, 1000), (1001, 2147483647)]) (T := []) (l := [(a 1).toInt, (a 2).toInt]) (by decide) (by decide) (by decide +kernel) ⟨⟨by omega, by omega⟩, ⟨by omega, by omega⟩, trivial⟩ trivial (yT_k (yV_c (c := 1000) (by decide) (by decide) (by omega)) (yT_k (yV_v (j := 1) rfl) trivial))
      · skip
        exact zBox_I (n := 1000000) (as := [.inr (.inr (.inr (.inl [(1, [0])]))), .inr (.inr (.inr (.inl [(1, [1])])))]) (bs := [(1001, 2147483647), (-2147483648, 2147483647)]) (T := []) (l := [(a 1).toInt, (a 2).toInt]) (by decide) (by decide) (by decide +kernel) ⟨⟨by omega, by omega⟩, ⟨by omega, by omega⟩, trivial⟩ trivial (yT_k (yV_v (j := 0) rfl) (yT_k (yV_v (j := 1) rfl) trivial))
-- lies
set_option maxRecDepth 1000000 in
set_option maxHeartbeats 8000000 in
theorem o_23 (a : Nat → Int32) : lOweK 57 w0e 23 a := by
  show lOweI 57 w0e 145 276 [.int (a 1), .int (a 2)]
  have hl0 := Int32.le_toInt (a 1)
  have hg0 := Int32.toInt_lt (a 1)
  have hl1 := Int32.le_toInt (a 2)
  have hg1 := Int32.toInt_lt (a 2)
  rcases izc (a 1).toInt (-1000) with h1 | h1
  · skip
    exact zBox_I (n := 1000000) (as := [.inr (.inr (.inr (.inl [(1, [0])]))), .inr (.inr (.inr (.inl [(1, [1])])))]) (bs := [(-2147483648, -1001), (-2147483648, 2147483647)]) (T := []) (l := [(a 1).toInt, (a 2).toInt]) (by decide) (by decide) (by decide +kernel) ⟨⟨by omega, by omega⟩, ⟨by omega, by omega⟩, trivial⟩ trivial (yT_k (yV_v (j := 0) rfl) (yT_k (yV_v (j := 1) rfl) trivial))
  · skip
    rcases izc (a 1).toInt (1000) with h2 | h2
    · skip
      rcases izc (a 2).toInt (-1000) with h3 | h3
      · skip
        exact zBox_I (n := 1000000) (as := [.inr (.inr (.inr (.inl [(1, [0])]))), .inr (.inr (.inr (.inl [(1, [1])])))]) (bs := [(-1000, 999), (-2147483648, -1001)]) (T := []) (l := [(a 1).toInt, (a 2).toInt]) (by decide) (by decide) (by decide +kernel) ⟨⟨by omega, by omega⟩, ⟨by omega, by omega⟩, trivial⟩ trivial (yT_k (yV_v (j := 0) rfl) (yT_k (yV_v (j := 1) rfl) trivial))
      · skip
        rcases izc (a 2).toInt (1000) with h4 | h4
        · skip
          rcases Int.lt_trichotomy (-1 * ((a 1).toInt) + 1 * ((a 2).toInt)) 0 with h5 | h5 | h5
          · skip
            rcases izc (a 1).toInt (-999) with h6 | h6
            · skip
              exfalso
              omega
            · skip
              rcases izc (a 2).toInt (-999) with h7 | h7
              · skip
                exact zBox_I (n := 1000000) (as := [.inr (.inr (.inr (.inl [(1, [0])]))), .inl 4294966296]) (bs := [(-999, 999), (-1000, -1000)]) (T := []) (l := [(a 1).toInt, (a 2).toInt]) (by decide) (by decide) (by decide +kernel) ⟨⟨by omega, by omega⟩, ⟨by omega, by omega⟩, trivial⟩ trivial (yT_k (yV_v (j := 0) rfl) (yT_k (yV_c (c := -1000) (by decide) (by decide) (by omega)) trivial))
              · skip
                exact zBox_I (n := 1000000) (as := [.inr (.inr (.inr (.inl [(1, [0])]))), .inr (.inr (.inr (.inl [(1, [1])])))]) (bs := [(-999, 999), (-999, 999)]) (T := [([(2000, [0]), (-2000, [1])], (false, false, true))]) (l := [(a 1).toInt, (a 2).toInt]) (by decide) (by decide) (by decide +kernel) ⟨⟨by omega, by omega⟩, ⟨by omega, by omega⟩, trivial⟩ ⟨sg_p (by show 0 < ((2000 : Int) * ((a 1).toInt * 1) + ((-2000 : Int) * ((a 2).toInt * 1) + 0)); (try simp only [Int.mul_one]); omega), trivial⟩ (yT_k (yV_v (j := 0) rfl) (yT_k (yV_v (j := 1) rfl) trivial))
          · skip
            rcases izc (a 1).toInt (-999) with h6 | h6
            · skip
              rcases izc (a 2).toInt (-999) with h7 | h7
              · skip
                exact zBox_I (n := 1000000) (as := [.inl 4294966296, .inl 4294966296]) (bs := [(-1000, -1000), (-1000, -1000)]) (T := []) (l := [(a 1).toInt, (a 2).toInt]) (by decide) (by decide) (by decide +kernel) ⟨⟨by omega, by omega⟩, ⟨by omega, by omega⟩, trivial⟩ trivial (yT_k (yV_c (c := -1000) (by decide) (by decide) (by omega)) (yT_k (yV_c (c := -1000) (by decide) (by decide) (by omega)) trivial))
              · skip
                exfalso
                omega
            · skip
              rcases izc (a 2).toInt (-999) with h7 | h7
              · skip
                exfalso
                omega
              · skip
                exact zBox_I (n := 1000000) (as := [.inr (.inr (.inr (.inl [(1, [0])]))), .inr (.inr (.inr (.inl [(1, [1])])))]) (bs := [(-999, 999), (-999, 999)]) (T := [([(2000, [0]), (-2000, [1])], (false, true, false))]) (l := [(a 1).toInt, (a 2).toInt]) (by decide) (by decide) (by decide +kernel) ⟨⟨by omega, by omega⟩, ⟨by omega, by omega⟩, trivial⟩ ⟨sg_z (by show ((2000 : Int) * ((a 1).toInt * 1) + ((-2000 : Int) * ((a 2).toInt * 1) + 0)) = 0; (try simp only [Int.mul_one]); omega), trivial⟩ (yT_k (yV_v (j := 0) rfl) (yT_k (yV_v (j := 1) rfl) trivial))
          · skip
            rcases izc (a 1).toInt (-999) with h6 | h6
            · skip
              rcases izc (a 2).toInt (-999) with h7 | h7
              · skip
                exfalso
                omega
              · skip
                exact zBox_I (n := 1000000) (as := [.inl 4294966296, .inr (.inr (.inr (.inl [(1, [1])])))]) (bs := [(-1000, -1000), (-999, 999)]) (T := []) (l := [(a 1).toInt, (a 2).toInt]) (by decide) (by decide) (by decide +kernel) ⟨⟨by omega, by omega⟩, ⟨by omega, by omega⟩, trivial⟩ trivial (yT_k (yV_c (c := -1000) (by decide) (by decide) (by omega)) (yT_k (yV_v (j := 1) rfl) trivial))
            · skip
              exact zBox_I (n := 1000000) (as := [.inr (.inr (.inr (.inl [(1, [0])]))), .inr (.inr (.inr (.inl [(1, [1])])))]) (bs := [(-999, 999), (-1000, 999)]) (T := [([(2000, [0]), (-2000, [1])], (true, false, false)), ([(-2000, [0]), (2000, [1])], (false, false, true))]) (l := [(a 1).toInt, (a 2).toInt]) (by decide) (by decide) (by decide +kernel) ⟨⟨by omega, by omega⟩, ⟨by omega, by omega⟩, trivial⟩ ⟨sg_n (by show ((2000 : Int) * ((a 1).toInt * 1) + ((-2000 : Int) * ((a 2).toInt * 1) + 0)) < 0; (try simp only [Int.mul_one]); omega), sg_p (by show 0 < ((-2000 : Int) * ((a 1).toInt * 1) + ((2000 : Int) * ((a 2).toInt * 1) + 0)); (try simp only [Int.mul_one]); omega), trivial⟩ (yT_k (yV_v (j := 0) rfl) (yT_k (yV_v (j := 1) rfl) trivial))
        · skip
          rcases izc (a 2).toInt (1001) with h5 | h5
          · skip
            rcases izc (a 1).toInt (-999) with h6 | h6
            · skip
              exact zBox_I (n := 1000000) (as := [.inl 4294966296, .inl 1000]) (bs := [(-1000, -1000), (1000, 1000)]) (T := []) (l := [(a 1).toInt, (a 2).toInt]) (by decide) (by decide) (by decide +kernel) ⟨⟨by omega, by omega⟩, ⟨by omega, by omega⟩, trivial⟩ trivial (yT_k (yV_c (c := -1000) (by decide) (by decide) (by omega)) (yT_k (yV_c (c := 1000) (by decide) (by decide) (by omega)) trivial))
            · skip
              exact zBox_I (n := 1000000) (as := [.inr (.inr (.inr (.inl [(1, [0])]))), .inl 1000]) (bs := [(-999, 999), (1000, 1000)]) (T := []) (l := [(a 1).toInt, (a 2).toInt]) (by decide) (by decide) (by decide +kernel) ⟨⟨by omega, by omega⟩, ⟨by omega, by omega⟩, trivial⟩ trivial (yT_k (yV_v (j := 0) rfl) (yT_k (yV_c (c := 1000) (by decide) (by decide) (by omega)) trivial))
          · skip
            exact zBox_I (n := 1000000) (as := [.inr (.inr (.inr (.inl [(1, [0])]))), .inr (.inr (.inr (.inl [(1, [1])])))]) (bs := [(-1000, 999), (1001, 2147483647)]) (T := []) (l := [(a 1).toInt, (a 2).toInt]) (by decide) (by decide) (by decide +kernel) ⟨⟨by omega, by omega⟩, ⟨by omega, by omega⟩, trivial⟩ trivial (yT_k (yV_v (j := 0) rfl) (yT_k (yV_v (j := 1) rfl) trivial))
    · skip
      rcases izc (a 1).toInt (1001) with h3 | h3
      · skip
        rcases izc (a 2).toInt (-1000) with h4 | h4
        · skip
          exact zBox_I (n := 1000000) (as := [.inl 1000, .inr (.inr (.inr (.inl [(1, [1])])))]) (bs := [(1000, 1000), (-2147483648, -1001)]) (T := []) (l := [(a 1).toInt, (a 2).toInt]) (by decide) (by decide) (by decide +kernel) ⟨⟨by omega, by omega⟩, ⟨by omega, by omega⟩, trivial⟩ trivial (yT_k (yV_c (c := 1000) (by decide) (by decide) (by omega)) (yT_k (yV_v (j := 1) rfl) trivial))
        · skip
          rcases izc (a 2).toInt (1000) with h5 | h5
          · skip
            rcases izc (a 2).toInt (-999) with h6 | h6
            · skip
              exact zBox_I (n := 1000000) (as := [.inl 1000, .inl 4294966296]) (bs := [(1000, 1000), (-1000, -1000)]) (T := []) (l := [(a 1).toInt, (a 2).toInt]) (by decide) (by decide) (by decide +kernel) ⟨⟨by omega, by omega⟩, ⟨by omega, by omega⟩, trivial⟩ trivial (yT_k (yV_c (c := 1000) (by decide) (by decide) (by omega)) (yT_k (yV_c (c := -1000) (by decide) (by decide) (by omega)) trivial))
            · skip
              exact zBox_I (n := 1000000) (as := [.inl 1000, .inr (.inr (.inr (.inl [(1, [1])])))]) (bs := [(1000, 1000), (-999, 999)]) (T := []) (l := [(a 1).toInt, (a 2).toInt]) (by decide) (by decide) (by decide +kernel) ⟨⟨by omega, by omega⟩, ⟨by omega, by omega⟩, trivial⟩ trivial (yT_k (yV_c (c := 1000) (by decide) (by decide) (by omega)) (yT_k (yV_v (j := 1) rfl) trivial))
          · skip
            rcases izc (a 2).toInt (1001) with h6 | h6
            · skip
              exact zBox_I (n := 1000000) (as := [.inl 1000, .inl 1000]) (bs := [(1000, 1000), (1000, 1000)]) (T := []) (l := [(a 1).toInt, (a 2).toInt]) (by decide) (by decide) (by decide +kernel) ⟨⟨by omega, by omega⟩, ⟨by omega, by omega⟩, trivial⟩ trivial (yT_k (yV_c (c := 1000) (by decide) (by decide) (by omega)) (yT_k (yV_c (c := 1000) (by decide) (by decide) (by omega)) trivial))
            · skip
              exact zBox_I (n := 1000000) (as := [.inl 1000, .inr (.inr (.inr (.inl [(1, [1])])))]) (bs := [(1000, 1000), (1001, 2147483647)]) (T := []) (l := [(a 1).toInt, (a 2).toInt]) (by decide) (by decide) (by decide +kernel) ⟨⟨by omega, by omega⟩, ⟨by omega, by omega⟩, trivial⟩ trivial (yT_k (yV_c (c := 1000) (by decide) (by decide) (by omega)) (yT_k (yV_v (j := 1) rfl) trivial))
      · skip
        exact zBox_I (n := 1000000) (as := [.inr (.inr (.inr (.inl [(1, [0])]))), .inr (.inr (.inr (.inl [(1, [1])])))]) (bs := [(1001, 2147483647), (-2147483648, 2147483647)]) (T := []) (l := [(a 1).toInt, (a 2).toInt]) (by decide) (by decide) (by decide +kernel) ⟨⟨by omega, by omega⟩, ⟨by omega, by omega⟩, trivial⟩ trivial (yT_k (yV_v (j := 0) rfl) (yT_k (yV_v (j := 1) rfl) trivial))
-- nearest
set_option maxRecDepth 1000000 in
set_option maxHeartbeats 8000000 in
theorem o_32 (a : Nat → Int32) : lOweK 57 w0e 32 a := by
  show lOweI 57 w0e 156 310 [.int (a 1), .int (a 2)]
  have hl0 := Int32.le_toInt (a 1)
  have hg0 := Int32.toInt_lt (a 1)
  have hl1 := Int32.le_toInt (a 2)
  have hg1 := Int32.toInt_lt (a 2)
  rcases izc (a 1).toInt (-1000) with h1 | h1
  · skip
    exact zBox_I (n := 1000000) (as := [.inr (.inr (.inr (.inl [(1, [0])]))), .inr (.inr (.inr (.inl [(1, [1])])))]) (bs := [(-2147483648, -1001), (-2147483648, 2147483647)]) (T := []) (l := [(a 1).toInt, (a 2).toInt]) (by decide) (by decide) (by decide +kernel) ⟨⟨by omega, by omega⟩, ⟨by omega, by omega⟩, trivial⟩ trivial (yT_k (yV_v (j := 0) rfl) (yT_k (yV_v (j := 1) rfl) trivial))
  · skip
    rcases izc (a 1).toInt (1000) with h2 | h2
    · skip
      rcases izc (a 2).toInt (-1000) with h3 | h3
      · skip
        exact zBox_I (n := 1000000) (as := [.inr (.inr (.inr (.inl [(1, [0])]))), .inr (.inr (.inr (.inl [(1, [1])])))]) (bs := [(-1000, 999), (-2147483648, -1001)]) (T := []) (l := [(a 1).toInt, (a 2).toInt]) (by decide) (by decide) (by decide +kernel) ⟨⟨by omega, by omega⟩, ⟨by omega, by omega⟩, trivial⟩ trivial (yT_k (yV_v (j := 0) rfl) (yT_k (yV_v (j := 1) rfl) trivial))
      · skip
        rcases izc (a 2).toInt (1000) with h4 | h4
        · skip
          rcases izc (a 1).toInt (0) with h5 | h5
          · skip
            rcases Int.lt_trichotomy (1 * ((a 1).toInt) + 1 * ((a 2).toInt)) 0 with h6 | h6 | h6
            · skip
              rcases izc (a 2).toInt (0) with h7 | h7
              · skip
                exact zBox_I (n := 1000000) (as := [.inr (.inr (.inr (.inl [(1, [0])]))), .inr (.inr (.inr (.inl [(1, [1])])))]) (bs := [(-1000, -1), (-1000, -1)]) (T := [([(-4000, [0]), (-4000, [1])], (false, false, true))]) (l := [(a 1).toInt, (a 2).toInt]) (by decide) (by decide) (by decide +kernel) ⟨⟨by omega, by omega⟩, ⟨by omega, by omega⟩, trivial⟩ ⟨sg_p (by show 0 < ((-4000 : Int) * ((a 1).toInt * 1) + ((-4000 : Int) * ((a 2).toInt * 1) + 0)); (try simp only [Int.mul_one]); omega), trivial⟩ (yT_k (yV_v (j := 0) rfl) (yT_k (yV_v (j := 1) rfl) trivial))
              · skip
                rcases izc (a 2).toInt (1) with h8 | h8
                · skip
                  exact zBox_I (n := 1000000) (as := [.inr (.inr (.inr (.inl [(1, [0])]))), .inl 0]) (bs := [(-1000, -1), (0, 0)]) (T := []) (l := [(a 1).toInt, (a 2).toInt]) (by decide) (by decide) (by decide +kernel) ⟨⟨by omega, by omega⟩, ⟨by omega, by omega⟩, trivial⟩ trivial (yT_k (yV_v (j := 0) rfl) (yT_k (yV_c (c := 0) (by decide) (by decide) (by omega)) trivial))
                · skip
                  exact zBox_I (n := 1000000) (as := [.inr (.inr (.inr (.inl [(1, [0])]))), .inr (.inr (.inr (.inl [(1, [1])])))]) (bs := [(-1000, -1), (1, 999)]) (T := [([(-4000, [0]), (-4000, [1])], (false, false, true))]) (l := [(a 1).toInt, (a 2).toInt]) (by decide) (by decide) (by decide +kernel) ⟨⟨by omega, by omega⟩, ⟨by omega, by omega⟩, trivial⟩ ⟨sg_p (by show 0 < ((-4000 : Int) * ((a 1).toInt * 1) + ((-4000 : Int) * ((a 2).toInt * 1) + 0)); (try simp only [Int.mul_one]); omega), trivial⟩ (yT_k (yV_v (j := 0) rfl) (yT_k (yV_v (j := 1) rfl) trivial))
            · skip
              rcases izc (a 2).toInt (0) with h7 | h7
              · skip
                exfalso
                omega
              · skip
                rcases izc (a 2).toInt (1) with h8 | h8
                · skip
                  exfalso
                  omega
                · skip
                  exact zBox_I (n := 1000000) (as := [.inr (.inr (.inr (.inl [(1, [0])]))), .inr (.inr (.inr (.inl [(1, [1])])))]) (bs := [(-1000, -1), (1, 999)]) (T := [([(-4000, [0]), (-4000, [1])], (false, true, false))]) (l := [(a 1).toInt, (a 2).toInt]) (by decide) (by decide) (by decide +kernel) ⟨⟨by omega, by omega⟩, ⟨by omega, by omega⟩, trivial⟩ ⟨sg_z (by show ((-4000 : Int) * ((a 1).toInt * 1) + ((-4000 : Int) * ((a 2).toInt * 1) + 0)) = 0; (try simp only [Int.mul_one]); omega), trivial⟩ (yT_k (yV_v (j := 0) rfl) (yT_k (yV_v (j := 1) rfl) trivial))
            · skip
              exact zBox_I (n := 1000000) (as := [.inr (.inr (.inr (.inl [(1, [0])]))), .inr (.inr (.inr (.inl [(1, [1])])))]) (bs := [(-1000, -1), (-1000, 999)]) (T := [([(-4000, [0]), (-4000, [1])], (true, false, false))]) (l := [(a 1).toInt, (a 2).toInt]) (by decide) (by decide) (by decide +kernel) ⟨⟨by omega, by omega⟩, ⟨by omega, by omega⟩, trivial⟩ ⟨sg_n (by show ((-4000 : Int) * ((a 1).toInt * 1) + ((-4000 : Int) * ((a 2).toInt * 1) + 0)) < 0; (try simp only [Int.mul_one]); omega), trivial⟩ (yT_k (yV_v (j := 0) rfl) (yT_k (yV_v (j := 1) rfl) trivial))
          · skip
            rcases izc (a 1).toInt (1) with h6 | h6
            · skip
              rcases izc (a 2).toInt (0) with h7 | h7
              · skip
                exact zBox_I (n := 1000000) (as := [.inl 0, .inr (.inr (.inr (.inl [(1, [1])])))]) (bs := [(0, 0), (-1000, -1)]) (T := []) (l := [(a 1).toInt, (a 2).toInt]) (by decide) (by decide) (by decide +kernel) ⟨⟨by omega, by omega⟩, ⟨by omega, by omega⟩, trivial⟩ trivial (yT_k (yV_c (c := 0) (by decide) (by decide) (by omega)) (yT_k (yV_v (j := 1) rfl) trivial))
              · skip
                rcases izc (a 2).toInt (1) with h8 | h8
                · skip
                  exact zBox_I (n := 1000000) (as := [.inl 0, .inl 0]) (bs := [(0, 0), (0, 0)]) (T := []) (l := [(a 1).toInt, (a 2).toInt]) (by decide) (by decide) (by decide +kernel) ⟨⟨by omega, by omega⟩, ⟨by omega, by omega⟩, trivial⟩ trivial (yT_k (yV_c (c := 0) (by decide) (by decide) (by omega)) (yT_k (yV_c (c := 0) (by decide) (by decide) (by omega)) trivial))
                · skip
                  exact zBox_I (n := 1000000) (as := [.inl 0, .inr (.inr (.inr (.inl [(1, [1])])))]) (bs := [(0, 0), (1, 999)]) (T := []) (l := [(a 1).toInt, (a 2).toInt]) (by decide) (by decide) (by decide +kernel) ⟨⟨by omega, by omega⟩, ⟨by omega, by omega⟩, trivial⟩ trivial (yT_k (yV_c (c := 0) (by decide) (by decide) (by omega)) (yT_k (yV_v (j := 1) rfl) trivial))
            · skip
              rcases izc (a 2).toInt (0) with h7 | h7
              · skip
                exact zBox_I (n := 1000000) (as := [.inr (.inr (.inr (.inl [(1, [0])]))), .inr (.inr (.inr (.inl [(1, [1])])))]) (bs := [(1, 999), (-1000, -1)]) (T := []) (l := [(a 1).toInt, (a 2).toInt]) (by decide) (by decide) (by decide +kernel) ⟨⟨by omega, by omega⟩, ⟨by omega, by omega⟩, trivial⟩ trivial (yT_k (yV_v (j := 0) rfl) (yT_k (yV_v (j := 1) rfl) trivial))
              · skip
                rcases izc (a 2).toInt (1) with h8 | h8
                · skip
                  exact zBox_I (n := 1000000) (as := [.inr (.inr (.inr (.inl [(1, [0])]))), .inl 0]) (bs := [(1, 999), (0, 0)]) (T := []) (l := [(a 1).toInt, (a 2).toInt]) (by decide) (by decide) (by decide +kernel) ⟨⟨by omega, by omega⟩, ⟨by omega, by omega⟩, trivial⟩ trivial (yT_k (yV_v (j := 0) rfl) (yT_k (yV_c (c := 0) (by decide) (by decide) (by omega)) trivial))
                · skip
                  exact zBox_I (n := 1000000) (as := [.inr (.inr (.inr (.inl [(1, [0])]))), .inr (.inr (.inr (.inl [(1, [1])])))]) (bs := [(1, 999), (1, 999)]) (T := []) (l := [(a 1).toInt, (a 2).toInt]) (by decide) (by decide) (by decide +kernel) ⟨⟨by omega, by omega⟩, ⟨by omega, by omega⟩, trivial⟩ trivial (yT_k (yV_v (j := 0) rfl) (yT_k (yV_v (j := 1) rfl) trivial))
        · skip
          rcases izc (a 2).toInt (1001) with h5 | h5
          · skip
            rcases izc (a 1).toInt (0) with h6 | h6
            · skip
              rcases izc (a 1).toInt (-999) with h7 | h7
              · skip
                exact zBox_I (n := 1000000) (as := [.inl 4294966296, .inl 1000]) (bs := [(-1000, -1000), (1000, 1000)]) (T := []) (l := [(a 1).toInt, (a 2).toInt]) (by decide) (by decide) (by decide +kernel) ⟨⟨by omega, by omega⟩, ⟨by omega, by omega⟩, trivial⟩ trivial (yT_k (yV_c (c := -1000) (by decide) (by decide) (by omega)) (yT_k (yV_c (c := 1000) (by decide) (by decide) (by omega)) trivial))
              · skip
                exact zBox_I (n := 1000000) (as := [.inr (.inr (.inr (.inl [(1, [0])]))), .inl 1000]) (bs := [(-999, -1), (1000, 1000)]) (T := []) (l := [(a 1).toInt, (a 2).toInt]) (by decide) (by decide) (by decide +kernel) ⟨⟨by omega, by omega⟩, ⟨by omega, by omega⟩, trivial⟩ trivial (yT_k (yV_v (j := 0) rfl) (yT_k (yV_c (c := 1000) (by decide) (by decide) (by omega)) trivial))
            · skip
              rcases izc (a 1).toInt (1) with h7 | h7
              · skip
                exact zBox_I (n := 1000000) (as := [.inl 0, .inl 1000]) (bs := [(0, 0), (1000, 1000)]) (T := []) (l := [(a 1).toInt, (a 2).toInt]) (by decide) (by decide) (by decide +kernel) ⟨⟨by omega, by omega⟩, ⟨by omega, by omega⟩, trivial⟩ trivial (yT_k (yV_c (c := 0) (by decide) (by decide) (by omega)) (yT_k (yV_c (c := 1000) (by decide) (by decide) (by omega)) trivial))
              · skip
                exact zBox_I (n := 1000000) (as := [.inr (.inr (.inr (.inl [(1, [0])]))), .inl 1000]) (bs := [(1, 999), (1000, 1000)]) (T := []) (l := [(a 1).toInt, (a 2).toInt]) (by decide) (by decide) (by decide +kernel) ⟨⟨by omega, by omega⟩, ⟨by omega, by omega⟩, trivial⟩ trivial (yT_k (yV_v (j := 0) rfl) (yT_k (yV_c (c := 1000) (by decide) (by decide) (by omega)) trivial))
          · skip
            exact zBox_I (n := 1000000) (as := [.inr (.inr (.inr (.inl [(1, [0])]))), .inr (.inr (.inr (.inl [(1, [1])])))]) (bs := [(-1000, 999), (1001, 2147483647)]) (T := []) (l := [(a 1).toInt, (a 2).toInt]) (by decide) (by decide) (by decide +kernel) ⟨⟨by omega, by omega⟩, ⟨by omega, by omega⟩, trivial⟩ trivial (yT_k (yV_v (j := 0) rfl) (yT_k (yV_v (j := 1) rfl) trivial))
    · skip
      rcases izc (a 1).toInt (1001) with h3 | h3
      · skip
        rcases izc (a 2).toInt (-1000) with h4 | h4
        · skip
          exact zBox_I (n := 1000000) (as := [.inl 1000, .inr (.inr (.inr (.inl [(1, [1])])))]) (bs := [(1000, 1000), (-2147483648, -1001)]) (T := []) (l := [(a 1).toInt, (a 2).toInt]) (by decide) (by decide) (by decide +kernel) ⟨⟨by omega, by omega⟩, ⟨by omega, by omega⟩, trivial⟩ trivial (yT_k (yV_c (c := 1000) (by decide) (by decide) (by omega)) (yT_k (yV_v (j := 1) rfl) trivial))
        · skip
          rcases izc (a 2).toInt (1000) with h5 | h5
          · skip
            rcases izc (a 2).toInt (0) with h6 | h6
            · skip
              exact zBox_I (n := 1000000) (as := [.inl 1000, .inr (.inr (.inr (.inl [(1, [1])])))]) (bs := [(1000, 1000), (-1000, -1)]) (T := []) (l := [(a 1).toInt, (a 2).toInt]) (by decide) (by decide) (by decide +kernel) ⟨⟨by omega, by omega⟩, ⟨by omega, by omega⟩, trivial⟩ trivial (yT_k (yV_c (c := 1000) (by decide) (by decide) (by omega)) (yT_k (yV_v (j := 1) rfl) trivial))
            · skip
              rcases izc (a 2).toInt (1) with h7 | h7
              · skip
                exact zBox_I (n := 1000000) (as := [.inl 1000, .inl 0]) (bs := [(1000, 1000), (0, 0)]) (T := []) (l := [(a 1).toInt, (a 2).toInt]) (by decide) (by decide) (by decide +kernel) ⟨⟨by omega, by omega⟩, ⟨by omega, by omega⟩, trivial⟩ trivial (yT_k (yV_c (c := 1000) (by decide) (by decide) (by omega)) (yT_k (yV_c (c := 0) (by decide) (by decide) (by omega)) trivial))
              · skip
                exact zBox_I (n := 1000000) (as := [.inl 1000, .inr (.inr (.inr (.inl [(1, [1])])))]) (bs := [(1000, 1000), (1, 999)]) (T := []) (l := [(a 1).toInt, (a 2).toInt]) (by decide) (by decide) (by decide +kernel) ⟨⟨by omega, by omega⟩, ⟨by omega, by omega⟩, trivial⟩ trivial (yT_k (yV_c (c := 1000) (by decide) (by decide) (by omega)) (yT_k (yV_v (j := 1) rfl) trivial))
          · skip
            rcases izc (a 2).toInt (1001) with h6 | h6
            · skip
              exact zBox_I (n := 1000000) (as := [.inl 1000, .inl 1000]) (bs := [(1000, 1000), (1000, 1000)]) (T := []) (l := [(a 1).toInt, (a 2).toInt]) (by decide) (by decide) (by decide +kernel) ⟨⟨by omega, by omega⟩, ⟨by omega, by omega⟩, trivial⟩ trivial (yT_k (yV_c (c := 1000) (by decide) (by decide) (by omega)) (yT_k (yV_c (c := 1000) (by decide) (by decide) (by omega)) trivial))
            · skip
              exact zBox_I (n := 1000000) (as := [.inl 1000, .inr (.inr (.inr (.inl [(1, [1])])))]) (bs := [(1000, 1000), (1001, 2147483647)]) (T := []) (l := [(a 1).toInt, (a 2).toInt]) (by decide) (by decide) (by decide +kernel) ⟨⟨by omega, by omega⟩, ⟨by omega, by omega⟩, trivial⟩ trivial (yT_k (yV_c (c := 1000) (by decide) (by decide) (by omega)) (yT_k (yV_v (j := 1) rfl) trivial))
      · skip
        exact zBox_I (n := 1000000) (as := [.inr (.inr (.inr (.inl [(1, [0])]))), .inr (.inr (.inr (.inl [(1, [1])])))]) (bs := [(1001, 2147483647), (-2147483648, 2147483647)]) (T := []) (l := [(a 1).toInt, (a 2).toInt]) (by decide) (by decide) (by decide +kernel) ⟨⟨by omega, by omega⟩, ⟨by omega, by omega⟩, trivial⟩ trivial (yT_k (yV_v (j := 0) rfl) (yT_k (yV_v (j := 1) rfl) trivial))
-- heightAt
set_option maxRecDepth 1000000 in
set_option maxHeartbeats 8000000 in
theorem o_46 (a : Nat → Int32) : lOweK 57 w0e 46 a := by
  show lOweI 57 w0e 171 323 [.int (a 1), .int (a 2)]
  have hl0 := Int32.le_toInt (a 1)
  have hg0 := Int32.toInt_lt (a 1)
  have hl1 := Int32.le_toInt (a 2)
  have hg1 := Int32.toInt_lt (a 2)
  rcases izc (a 1).toInt (-1000) with h1 | h1
  · skip
    exact zBox_I (n := 1000000) (as := [.inr (.inr (.inr (.inl [(1, [0])]))), .inr (.inr (.inr (.inl [(1, [1])])))]) (bs := [(-2147483648, -1001), (-2147483648, 2147483647)]) (T := []) (l := [(a 1).toInt, (a 2).toInt]) (by decide) (by decide) (by decide +kernel) ⟨⟨by omega, by omega⟩, ⟨by omega, by omega⟩, trivial⟩ trivial (yT_k (yV_v (j := 0) rfl) (yT_k (yV_v (j := 1) rfl) trivial))
  · skip
    rcases izc (a 1).toInt (1000) with h2 | h2
    · skip
      rcases izc (a 2).toInt (-1000) with h3 | h3
      · skip
        exact zBox_I (n := 1000000) (as := [.inr (.inr (.inr (.inl [(1, [0])]))), .inr (.inr (.inr (.inl [(1, [1])])))]) (bs := [(-1000, 999), (-2147483648, -1001)]) (T := []) (l := [(a 1).toInt, (a 2).toInt]) (by decide) (by decide) (by decide +kernel) ⟨⟨by omega, by omega⟩, ⟨by omega, by omega⟩, trivial⟩ trivial (yT_k (yV_v (j := 0) rfl) (yT_k (yV_v (j := 1) rfl) trivial))
      · skip
        rcases izc (a 2).toInt (1000) with h4 | h4
        · skip
          rcases Int.lt_trichotomy (-1 * ((a 1).toInt) + 1 * ((a 2).toInt)) 0 with h5 | h5 | h5
          · skip
            exact zBox_I (n := 1000000) (as := [.inr (.inr (.inr (.inl [(1, [0])]))), .inr (.inr (.inr (.inl [(1, [1])])))]) (bs := [(-1000, 999), (-1000, 999)]) (T := [([(2000, [0]), (-2000, [1])], (false, false, true))]) (l := [(a 1).toInt, (a 2).toInt]) (by decide) (by decide) (by decide +kernel) ⟨⟨by omega, by omega⟩, ⟨by omega, by omega⟩, trivial⟩ ⟨sg_p (by show 0 < ((2000 : Int) * ((a 1).toInt * 1) + ((-2000 : Int) * ((a 2).toInt * 1) + 0)); (try simp only [Int.mul_one]); omega), trivial⟩ (yT_k (yV_v (j := 0) rfl) (yT_k (yV_v (j := 1) rfl) trivial))
          · skip
            exact zBox_I (n := 1000000) (as := [.inr (.inr (.inr (.inl [(1, [0])]))), .inr (.inr (.inr (.inl [(1, [1])])))]) (bs := [(-1000, 999), (-1000, 999)]) (T := [([(2000, [0]), (-2000, [1])], (false, true, false))]) (l := [(a 1).toInt, (a 2).toInt]) (by decide) (by decide) (by decide +kernel) ⟨⟨by omega, by omega⟩, ⟨by omega, by omega⟩, trivial⟩ ⟨sg_z (by show ((2000 : Int) * ((a 1).toInt * 1) + ((-2000 : Int) * ((a 2).toInt * 1) + 0)) = 0; (try simp only [Int.mul_one]); omega), trivial⟩ (yT_k (yV_v (j := 0) rfl) (yT_k (yV_v (j := 1) rfl) trivial))
          · skip
            exact zBox_I (n := 1000000) (as := [.inr (.inr (.inr (.inl [(1, [0])]))), .inr (.inr (.inr (.inl [(1, [1])])))]) (bs := [(-1000, 999), (-1000, 999)]) (T := [([(2000, [0]), (-2000, [1])], (true, false, false)), ([(-2000, [0]), (2000, [1])], (false, false, true))]) (l := [(a 1).toInt, (a 2).toInt]) (by decide) (by decide) (by decide +kernel) ⟨⟨by omega, by omega⟩, ⟨by omega, by omega⟩, trivial⟩ ⟨sg_n (by show ((2000 : Int) * ((a 1).toInt * 1) + ((-2000 : Int) * ((a 2).toInt * 1) + 0)) < 0; (try simp only [Int.mul_one]); omega), sg_p (by show 0 < ((-2000 : Int) * ((a 1).toInt * 1) + ((2000 : Int) * ((a 2).toInt * 1) + 0)); (try simp only [Int.mul_one]); omega), trivial⟩ (yT_k (yV_v (j := 0) rfl) (yT_k (yV_v (j := 1) rfl) trivial))
        · skip
          rcases izc (a 2).toInt (1001) with h5 | h5
          · skip
            exact zBox_I (n := 1000000) (as := [.inr (.inr (.inr (.inl [(1, [0])]))), .inl 1000]) (bs := [(-1000, 999), (1000, 1000)]) (T := []) (l := [(a 1).toInt, (a 2).toInt]) (by decide) (by decide) (by decide +kernel) ⟨⟨by omega, by omega⟩, ⟨by omega, by omega⟩, trivial⟩ trivial (yT_k (yV_v (j := 0) rfl) (yT_k (yV_c (c := 1000) (by decide) (by decide) (by omega)) trivial))
          · skip
            exact zBox_I (n := 1000000) (as := [.inr (.inr (.inr (.inl [(1, [0])]))), .inr (.inr (.inr (.inl [(1, [1])])))]) (bs := [(-1000, 999), (1001, 2147483647)]) (T := []) (l := [(a 1).toInt, (a 2).toInt]) (by decide) (by decide) (by decide +kernel) ⟨⟨by omega, by omega⟩, ⟨by omega, by omega⟩, trivial⟩ trivial (yT_k (yV_v (j := 0) rfl) (yT_k (yV_v (j := 1) rfl) trivial))
    · skip
      rcases izc (a 1).toInt (1001) with h3 | h3
      · skip
        rcases izc (a 2).toInt (-1000) with h4 | h4
        · skip
          exact zBox_I (n := 1000000) (as := [.inl 1000, .inr (.inr (.inr (.inl [(1, [1])])))]) (bs := [(1000, 1000), (-2147483648, -1001)]) (T := []) (l := [(a 1).toInt, (a 2).toInt]) (by decide) (by decide) (by decide +kernel) ⟨⟨by omega, by omega⟩, ⟨by omega, by omega⟩, trivial⟩ trivial (yT_k (yV_c (c := 1000) (by decide) (by decide) (by omega)) (yT_k (yV_v (j := 1) rfl) trivial))
        · skip
          rcases izc (a 2).toInt (1000) with h5 | h5
          · skip
            exact zBox_I (n := 1000000) (as := [.inl 1000, .inr (.inr (.inr (.inl [(1, [1])])))]) (bs := [(1000, 1000), (-1000, 999)]) (T := []) (l := [(a 1).toInt, (a 2).toInt]) (by decide) (by decide) (by decide +kernel) ⟨⟨by omega, by omega⟩, ⟨by omega, by omega⟩, trivial⟩ trivial (yT_k (yV_c (c := 1000) (by decide) (by decide) (by omega)) (yT_k (yV_v (j := 1) rfl) trivial))
          · skip
            rcases izc (a 2).toInt (1001) with h6 | h6
            · skip
              exact zBox_I (n := 1000000) (as := [.inl 1000, .inl 1000]) (bs := [(1000, 1000), (1000, 1000)]) (T := []) (l := [(a 1).toInt, (a 2).toInt]) (by decide) (by decide) (by decide +kernel) ⟨⟨by omega, by omega⟩, ⟨by omega, by omega⟩, trivial⟩ trivial (yT_k (yV_c (c := 1000) (by decide) (by decide) (by omega)) (yT_k (yV_c (c := 1000) (by decide) (by decide) (by omega)) trivial))
            · skip
              exact zBox_I (n := 1000000) (as := [.inl 1000, .inr (.inr (.inr (.inl [(1, [1])])))]) (bs := [(1000, 1000), (1001, 2147483647)]) (T := []) (l := [(a 1).toInt, (a 2).toInt]) (by decide) (by decide) (by decide +kernel) ⟨⟨by omega, by omega⟩, ⟨by omega, by omega⟩, trivial⟩ trivial (yT_k (yV_c (c := 1000) (by decide) (by decide) (by omega)) (yT_k (yV_v (j := 1) rfl) trivial))
      · skip
        exact zBox_I (n := 1000000) (as := [.inr (.inr (.inr (.inl [(1, [0])]))), .inr (.inr (.inr (.inl [(1, [1])])))]) (bs := [(1001, 2147483647), (-2147483648, 2147483647)]) (T := []) (l := [(a 1).toInt, (a 2).toInt]) (by decide) (by decide) (by decide +kernel) ⟨⟨by omega, by omega⟩, ⟨by omega, by omega⟩, trivial⟩ trivial (yT_k (yV_v (j := 0) rfl) (yT_k (yV_v (j := 1) rfl) trivial))
-- circle
set_option maxRecDepth 1000000 in
set_option maxHeartbeats 8000000 in
theorem o_39 (a : Nat → Int32) : lOweK 57 w0e 39 a := by
  show lOweI 57 w0e 160 322 [.int (a 1), .int (a 2), .int (a 3)]
  have hl0 := Int32.le_toInt (a 1)
  have hg0 := Int32.toInt_lt (a 1)
  have hl1 := Int32.le_toInt (a 2)
  have hg1 := Int32.toInt_lt (a 2)
  have hl2 := Int32.le_toInt (a 3)
  have hg2 := Int32.toInt_lt (a 3)
  rcases izc (a 1).toInt (0) with h1 | h1
  · skip
    exact zBox_I (n := 1000000) (as := [.inr (.inr (.inr (.inl [(1, [0])]))), .inr (.inr (.inr (.inl [(1, [1])]))), .inr (.inr (.inr (.inl [(1, [2])])))]) (bs := [(-2147483648, -1), (-2147483648, 2147483647), (-2147483648, 2147483647)]) (T := []) (l := [(a 1).toInt, (a 2).toInt, (a 3).toInt]) (by decide) (by decide) (by decide +kernel) ⟨⟨by omega, by omega⟩, ⟨by omega, by omega⟩, ⟨by omega, by omega⟩, trivial⟩ trivial (yT_k (yV_v (j := 0) rfl) (yT_k (yV_v (j := 1) rfl) (yT_k (yV_v (j := 2) rfl) trivial)))
  · skip
    rcases izc (a 1).toInt (2) with h2 | h2
    · skip
      rcases izc (a 2).toInt (-1000) with h3 | h3
      · skip
        exact zBox_I (n := 1000000) (as := [.inr (.inr (.inr (.inl [(1, [0])]))), .inr (.inr (.inr (.inl [(1, [1])]))), .inr (.inr (.inr (.inl [(1, [2])])))]) (bs := [(0, 1), (-2147483648, -1001), (-2147483648, 2147483647)]) (T := []) (l := [(a 1).toInt, (a 2).toInt, (a 3).toInt]) (by decide) (by decide) (by decide +kernel) ⟨⟨by omega, by omega⟩, ⟨by omega, by omega⟩, ⟨by omega, by omega⟩, trivial⟩ trivial (yT_k (yV_v (j := 0) rfl) (yT_k (yV_v (j := 1) rfl) (yT_k (yV_v (j := 2) rfl) trivial)))
      · skip
        rcases izc (a 2).toInt (1000) with h4 | h4
        · skip
          rcases izc (a 3).toInt (-1000) with h5 | h5
          · skip
            exact zBox_I (n := 1000000) (as := [.inr (.inr (.inr (.inl [(1, [0])]))), .inr (.inr (.inr (.inl [(1, [1])]))), .inr (.inr (.inr (.inl [(1, [2])])))]) (bs := [(0, 1), (-1000, 999), (-2147483648, -1001)]) (T := []) (l := [(a 1).toInt, (a 2).toInt, (a 3).toInt]) (by decide) (by decide) (by decide +kernel) ⟨⟨by omega, by omega⟩, ⟨by omega, by omega⟩, ⟨by omega, by omega⟩, trivial⟩ trivial (yT_k (yV_v (j := 0) rfl) (yT_k (yV_v (j := 1) rfl) (yT_k (yV_v (j := 2) rfl) trivial)))
          · skip
            rcases izc (a 3).toInt (1000) with h6 | h6
            · skip
              rcases izc (a 1).toInt (1) with h7 | h7
              · skip
                rcases Int.lt_trichotomy (-2000000 + 1 * ((a 2).toInt * (a 2).toInt) + 1 * ((a 3).toInt * (a 3).toInt)) 0 with h8 | h8 | h8
                · skip
                  exact zBox_I (n := 1000000) (as := [.inl 0, .inr (.inr (.inr (.inl [(1, [1])]))), .inr (.inr (.inr (.inl [(1, [2])])))]) (bs := [(0, 0), (-1000, 999), (-1000, 999)]) (T := [([(8000000000000, []), (-4000000, [1, 1]), (-4000000, [2, 2])], (false, false, true))]) (l := [(a 1).toInt, (a 2).toInt, (a 3).toInt]) (by decide) (by decide) (by decide +kernel) ⟨⟨by omega, by omega⟩, ⟨by omega, by omega⟩, ⟨by omega, by omega⟩, trivial⟩ ⟨sg_p (by show 0 < ((8000000000000 : Int) * 1 + ((-4000000 : Int) * ((a 2).toInt * ((a 2).toInt * 1)) + ((-4000000 : Int) * ((a 3).toInt * ((a 3).toInt * 1)) + 0))); (try simp only [Int.mul_one]); omega), trivial⟩ (yT_k (yV_c (c := 0) (by decide) (by decide) (by omega)) (yT_k (yV_v (j := 1) rfl) (yT_k (yV_v (j := 2) rfl) trivial)))
                · skip
                  exact zBox_I (n := 1000000) (as := [.inl 0, .inr (.inr (.inr (.inl [(1, [1])]))), .inr (.inr (.inr (.inl [(1, [2])])))]) (bs := [(0, 0), (-1000, 999), (-1000, 999)]) (T := [([(8000000000000, []), (-4000000, [1, 1]), (-4000000, [2, 2])], (false, true, false))]) (l := [(a 1).toInt, (a 2).toInt, (a 3).toInt]) (by decide) (by decide) (by decide +kernel) ⟨⟨by omega, by omega⟩, ⟨by omega, by omega⟩, ⟨by omega, by omega⟩, trivial⟩ ⟨sg_z (by show ((8000000000000 : Int) * 1 + ((-4000000 : Int) * ((a 2).toInt * ((a 2).toInt * 1)) + ((-4000000 : Int) * ((a 3).toInt * ((a 3).toInt * 1)) + 0))) = 0; (try simp only [Int.mul_one]); omega), trivial⟩ (yT_k (yV_c (c := 0) (by decide) (by decide) (by omega)) (yT_k (yV_v (j := 1) rfl) (yT_k (yV_v (j := 2) rfl) trivial)))
                · skip
                  exfalso
                  have q1 := sq_le (x := (a 2).toInt) (by omega) (by omega)
                  have q2 := sq_le (x := (a 3).toInt) (by omega) (by omega)
                  omega
              · skip
                rcases Int.lt_trichotomy (-2000000 + 1 * ((a 2).toInt * (a 2).toInt) + 1 * ((a 3).toInt * (a 3).toInt)) 0 with h8 | h8 | h8
                · skip
                  exact zBox_I (n := 1000000) (as := [.inl 1, .inr (.inr (.inr (.inl [(1, [1])]))), .inr (.inr (.inr (.inl [(1, [2])])))]) (bs := [(1, 1), (-1000, 999), (-1000, 999)]) (T := [([(8000000000000, []), (-4000000, [1, 1]), (-4000000, [2, 2])], (false, false, true))]) (l := [(a 1).toInt, (a 2).toInt, (a 3).toInt]) (by decide) (by decide) (by decide +kernel) ⟨⟨by omega, by omega⟩, ⟨by omega, by omega⟩, ⟨by omega, by omega⟩, trivial⟩ ⟨sg_p (by show 0 < ((8000000000000 : Int) * 1 + ((-4000000 : Int) * ((a 2).toInt * ((a 2).toInt * 1)) + ((-4000000 : Int) * ((a 3).toInt * ((a 3).toInt * 1)) + 0))); (try simp only [Int.mul_one]); omega), trivial⟩ (yT_k (yV_c (c := 1) (by decide) (by decide) (by omega)) (yT_k (yV_v (j := 1) rfl) (yT_k (yV_v (j := 2) rfl) trivial)))
                · skip
                  exact zBox_I (n := 1000000) (as := [.inl 1, .inr (.inr (.inr (.inl [(1, [1])]))), .inr (.inr (.inr (.inl [(1, [2])])))]) (bs := [(1, 1), (-1000, 999), (-1000, 999)]) (T := [([(8000000000000, []), (-4000000, [1, 1]), (-4000000, [2, 2])], (false, true, false))]) (l := [(a 1).toInt, (a 2).toInt, (a 3).toInt]) (by decide) (by decide) (by decide +kernel) ⟨⟨by omega, by omega⟩, ⟨by omega, by omega⟩, ⟨by omega, by omega⟩, trivial⟩ ⟨sg_z (by show ((8000000000000 : Int) * 1 + ((-4000000 : Int) * ((a 2).toInt * ((a 2).toInt * 1)) + ((-4000000 : Int) * ((a 3).toInt * ((a 3).toInt * 1)) + 0))) = 0; (try simp only [Int.mul_one]); omega), trivial⟩ (yT_k (yV_c (c := 1) (by decide) (by decide) (by omega)) (yT_k (yV_v (j := 1) rfl) (yT_k (yV_v (j := 2) rfl) trivial)))
                · skip
                  exfalso
                  have q1 := sq_le (x := (a 2).toInt) (by omega) (by omega)
                  have q2 := sq_le (x := (a 3).toInt) (by omega) (by omega)
                  omega
            · skip
              rcases izc (a 3).toInt (1001) with h7 | h7
              · skip
                rcases izc (a 1).toInt (1) with h8 | h8
                · skip
                  rcases Int.lt_trichotomy (-1000000 + 1 * ((a 2).toInt * (a 2).toInt)) 0 with h9 | h9 | h9
                  · skip
                    exact zBox_I (n := 1000000) (as := [.inl 0, .inr (.inr (.inr (.inl [(1, [1])]))), .inl 1000]) (bs := [(0, 0), (-1000, 999), (1000, 1000)]) (T := [([(4000000000000, []), (-4000000, [1, 1])], (false, false, true))]) (l := [(a 1).toInt, (a 2).toInt, (a 3).toInt]) (by decide) (by decide) (by decide +kernel) ⟨⟨by omega, by omega⟩, ⟨by omega, by omega⟩, ⟨by omega, by omega⟩, trivial⟩ ⟨sg_p (by show 0 < ((4000000000000 : Int) * 1 + ((-4000000 : Int) * ((a 2).toInt * ((a 2).toInt * 1)) + 0)); (try simp only [Int.mul_one]); omega), trivial⟩ (yT_k (yV_c (c := 0) (by decide) (by decide) (by omega)) (yT_k (yV_v (j := 1) rfl) (yT_k (yV_c (c := 1000) (by decide) (by decide) (by omega)) trivial)))
                  · skip
                    exact zBox_I (n := 1000000) (as := [.inl 0, .inr (.inr (.inr (.inl [(1, [1])]))), .inl 1000]) (bs := [(0, 0), (-1000, 999), (1000, 1000)]) (T := [([(4000000000000, []), (-4000000, [1, 1])], (false, true, false))]) (l := [(a 1).toInt, (a 2).toInt, (a 3).toInt]) (by decide) (by decide) (by decide +kernel) ⟨⟨by omega, by omega⟩, ⟨by omega, by omega⟩, ⟨by omega, by omega⟩, trivial⟩ ⟨sg_z (by show ((4000000000000 : Int) * 1 + ((-4000000 : Int) * ((a 2).toInt * ((a 2).toInt * 1)) + 0)) = 0; (try simp only [Int.mul_one]); omega), trivial⟩ (yT_k (yV_c (c := 0) (by decide) (by decide) (by omega)) (yT_k (yV_v (j := 1) rfl) (yT_k (yV_c (c := 1000) (by decide) (by decide) (by omega)) trivial)))
                  · skip
                    exfalso
                    have q1 := sq_le (x := (a 2).toInt) (by omega) (by omega)
                    omega
                · skip
                  rcases Int.lt_trichotomy (-1000000 + 1 * ((a 2).toInt * (a 2).toInt)) 0 with h9 | h9 | h9
                  · skip
                    exact zBox_I (n := 1000000) (as := [.inl 1, .inr (.inr (.inr (.inl [(1, [1])]))), .inl 1000]) (bs := [(1, 1), (-1000, 999), (1000, 1000)]) (T := [([(4000000000000, []), (-4000000, [1, 1])], (false, false, true))]) (l := [(a 1).toInt, (a 2).toInt, (a 3).toInt]) (by decide) (by decide) (by decide +kernel) ⟨⟨by omega, by omega⟩, ⟨by omega, by omega⟩, ⟨by omega, by omega⟩, trivial⟩ ⟨sg_p (by show 0 < ((4000000000000 : Int) * 1 + ((-4000000 : Int) * ((a 2).toInt * ((a 2).toInt * 1)) + 0)); (try simp only [Int.mul_one]); omega), trivial⟩ (yT_k (yV_c (c := 1) (by decide) (by decide) (by omega)) (yT_k (yV_v (j := 1) rfl) (yT_k (yV_c (c := 1000) (by decide) (by decide) (by omega)) trivial)))
                  · skip
                    exact zBox_I (n := 1000000) (as := [.inl 1, .inr (.inr (.inr (.inl [(1, [1])]))), .inl 1000]) (bs := [(1, 1), (-1000, 999), (1000, 1000)]) (T := [([(4000000000000, []), (-4000000, [1, 1])], (false, true, false))]) (l := [(a 1).toInt, (a 2).toInt, (a 3).toInt]) (by decide) (by decide) (by decide +kernel) ⟨⟨by omega, by omega⟩, ⟨by omega, by omega⟩, ⟨by omega, by omega⟩, trivial⟩ ⟨sg_z (by show ((4000000000000 : Int) * 1 + ((-4000000 : Int) * ((a 2).toInt * ((a 2).toInt * 1)) + 0)) = 0; (try simp only [Int.mul_one]); omega), trivial⟩ (yT_k (yV_c (c := 1) (by decide) (by decide) (by omega)) (yT_k (yV_v (j := 1) rfl) (yT_k (yV_c (c := 1000) (by decide) (by decide) (by omega)) trivial)))
                  · skip
                    exfalso
                    have q1 := sq_le (x := (a 2).toInt) (by omega) (by omega)
                    omega
              · skip
                exact zBox_I (n := 1000000) (as := [.inr (.inr (.inr (.inl [(1, [0])]))), .inr (.inr (.inr (.inl [(1, [1])]))), .inr (.inr (.inr (.inl [(1, [2])])))]) (bs := [(0, 1), (-1000, 999), (1001, 2147483647)]) (T := []) (l := [(a 1).toInt, (a 2).toInt, (a 3).toInt]) (by decide) (by decide) (by decide +kernel) ⟨⟨by omega, by omega⟩, ⟨by omega, by omega⟩, ⟨by omega, by omega⟩, trivial⟩ trivial (yT_k (yV_v (j := 0) rfl) (yT_k (yV_v (j := 1) rfl) (yT_k (yV_v (j := 2) rfl) trivial)))
        · skip
          rcases izc (a 2).toInt (1001) with h5 | h5
          · skip
            rcases izc (a 3).toInt (-1000) with h6 | h6
            · skip
              exact zBox_I (n := 1000000) (as := [.inr (.inr (.inr (.inl [(1, [0])]))), .inl 1000, .inr (.inr (.inr (.inl [(1, [2])])))]) (bs := [(0, 1), (1000, 1000), (-2147483648, -1001)]) (T := []) (l := [(a 1).toInt, (a 2).toInt, (a 3).toInt]) (by decide) (by decide) (by decide +kernel) ⟨⟨by omega, by omega⟩, ⟨by omega, by omega⟩, ⟨by omega, by omega⟩, trivial⟩ trivial (yT_k (yV_v (j := 0) rfl) (yT_k (yV_c (c := 1000) (by decide) (by decide) (by omega)) (yT_k (yV_v (j := 2) rfl) trivial)))
            · skip
              rcases izc (a 3).toInt (1000) with h7 | h7
              · skip
                rcases izc (a 1).toInt (1) with h8 | h8
                · skip
                  rcases Int.lt_trichotomy (-1000000 + 1 * ((a 3).toInt * (a 3).toInt)) 0 with h9 | h9 | h9
                  · skip
                    exact zBox_I (n := 1000000) (as := [.inl 0, .inl 1000, .inr (.inr (.inr (.inl [(1, [2])])))]) (bs := [(0, 0), (1000, 1000), (-1000, 999)]) (T := [([(4000000000000, []), (-4000000, [2, 2])], (false, false, true))]) (l := [(a 1).toInt, (a 2).toInt, (a 3).toInt]) (by decide) (by decide) (by decide +kernel) ⟨⟨by omega, by omega⟩, ⟨by omega, by omega⟩, ⟨by omega, by omega⟩, trivial⟩ ⟨sg_p (by show 0 < ((4000000000000 : Int) * 1 + ((-4000000 : Int) * ((a 3).toInt * ((a 3).toInt * 1)) + 0)); (try simp only [Int.mul_one]); omega), trivial⟩ (yT_k (yV_c (c := 0) (by decide) (by decide) (by omega)) (yT_k (yV_c (c := 1000) (by decide) (by decide) (by omega)) (yT_k (yV_v (j := 2) rfl) trivial)))
                  · skip
                    exact zBox_I (n := 1000000) (as := [.inl 0, .inl 1000, .inr (.inr (.inr (.inl [(1, [2])])))]) (bs := [(0, 0), (1000, 1000), (-1000, 999)]) (T := [([(4000000000000, []), (-4000000, [2, 2])], (false, true, false))]) (l := [(a 1).toInt, (a 2).toInt, (a 3).toInt]) (by decide) (by decide) (by decide +kernel) ⟨⟨by omega, by omega⟩, ⟨by omega, by omega⟩, ⟨by omega, by omega⟩, trivial⟩ ⟨sg_z (by show ((4000000000000 : Int) * 1 + ((-4000000 : Int) * ((a 3).toInt * ((a 3).toInt * 1)) + 0)) = 0; (try simp only [Int.mul_one]); omega), trivial⟩ (yT_k (yV_c (c := 0) (by decide) (by decide) (by omega)) (yT_k (yV_c (c := 1000) (by decide) (by decide) (by omega)) (yT_k (yV_v (j := 2) rfl) trivial)))
                  · skip
                    exfalso
                    have q2 := sq_le (x := (a 3).toInt) (by omega) (by omega)
                    omega
                · skip
                  rcases Int.lt_trichotomy (-1000000 + 1 * ((a 3).toInt * (a 3).toInt)) 0 with h9 | h9 | h9
                  · skip
                    exact zBox_I (n := 1000000) (as := [.inl 1, .inl 1000, .inr (.inr (.inr (.inl [(1, [2])])))]) (bs := [(1, 1), (1000, 1000), (-1000, 999)]) (T := [([(4000000000000, []), (-4000000, [2, 2])], (false, false, true))]) (l := [(a 1).toInt, (a 2).toInt, (a 3).toInt]) (by decide) (by decide) (by decide +kernel) ⟨⟨by omega, by omega⟩, ⟨by omega, by omega⟩, ⟨by omega, by omega⟩, trivial⟩ ⟨sg_p (by show 0 < ((4000000000000 : Int) * 1 + ((-4000000 : Int) * ((a 3).toInt * ((a 3).toInt * 1)) + 0)); (try simp only [Int.mul_one]); omega), trivial⟩ (yT_k (yV_c (c := 1) (by decide) (by decide) (by omega)) (yT_k (yV_c (c := 1000) (by decide) (by decide) (by omega)) (yT_k (yV_v (j := 2) rfl) trivial)))
                  · skip
                    exact zBox_I (n := 1000000) (as := [.inl 1, .inl 1000, .inr (.inr (.inr (.inl [(1, [2])])))]) (bs := [(1, 1), (1000, 1000), (-1000, 999)]) (T := [([(4000000000000, []), (-4000000, [2, 2])], (false, true, false))]) (l := [(a 1).toInt, (a 2).toInt, (a 3).toInt]) (by decide) (by decide) (by decide +kernel) ⟨⟨by omega, by omega⟩, ⟨by omega, by omega⟩, ⟨by omega, by omega⟩, trivial⟩ ⟨sg_z (by show ((4000000000000 : Int) * 1 + ((-4000000 : Int) * ((a 3).toInt * ((a 3).toInt * 1)) + 0)) = 0; (try simp only [Int.mul_one]); omega), trivial⟩ (yT_k (yV_c (c := 1) (by decide) (by decide) (by omega)) (yT_k (yV_c (c := 1000) (by decide) (by decide) (by omega)) (yT_k (yV_v (j := 2) rfl) trivial)))
                  · skip
                    exfalso
                    have q2 := sq_le (x := (a 3).toInt) (by omega) (by omega)
                    omega
              · skip
                rcases izc (a 3).toInt (1001) with h8 | h8
                · skip
                  rcases izc (a 1).toInt (1) with h9 | h9
                  · skip
                    exact zBox_I (n := 1000000) (as := [.inl 0, .inl 1000, .inl 1000]) (bs := [(0, 0), (1000, 1000), (1000, 1000)]) (T := []) (l := [(a 1).toInt, (a 2).toInt, (a 3).toInt]) (by decide) (by decide) (by decide +kernel) ⟨⟨by omega, by omega⟩, ⟨by omega, by omega⟩, ⟨by omega, by omega⟩, trivial⟩ trivial (yT_k (yV_c (c := 0) (by decide) (by decide) (by omega)) (yT_k (yV_c (c := 1000) (by decide) (by decide) (by omega)) (yT_k (yV_c (c := 1000) (by decide) (by decide) (by omega)) trivial)))
                  · skip
                    exact zBox_I (n := 1000000) (as := [.inl 1, .inl 1000, .inl 1000]) (bs := [(1, 1), (1000, 1000), (1000, 1000)]) (T := []) (l := [(a 1).toInt, (a 2).toInt, (a 3).toInt]) (by decide) (by decide) (by decide +kernel) ⟨⟨by omega, by omega⟩, ⟨by omega, by omega⟩, ⟨by omega, by omega⟩, trivial⟩ trivial (yT_k (yV_c (c := 1) (by decide) (by decide) (by omega)) (yT_k (yV_c (c := 1000) (by decide) (by decide) (by omega)) (yT_k (yV_c (c := 1000) (by decide) (by decide) (by omega)) trivial)))
                · skip
                  exact zBox_I (n := 1000000) (as := [.inr (.inr (.inr (.inl [(1, [0])]))), .inl 1000, .inr (.inr (.inr (.inl [(1, [2])])))]) (bs := [(0, 1), (1000, 1000), (1001, 2147483647)]) (T := []) (l := [(a 1).toInt, (a 2).toInt, (a 3).toInt]) (by decide) (by decide) (by decide +kernel) ⟨⟨by omega, by omega⟩, ⟨by omega, by omega⟩, ⟨by omega, by omega⟩, trivial⟩ trivial (yT_k (yV_v (j := 0) rfl) (yT_k (yV_c (c := 1000) (by decide) (by decide) (by omega)) (yT_k (yV_v (j := 2) rfl) trivial)))
          · skip
            exact zBox_I (n := 1000000) (as := [.inr (.inr (.inr (.inl [(1, [0])]))), .inr (.inr (.inr (.inl [(1, [1])]))), .inr (.inr (.inr (.inl [(1, [2])])))]) (bs := [(0, 1), (1001, 2147483647), (-2147483648, 2147483647)]) (T := []) (l := [(a 1).toInt, (a 2).toInt, (a 3).toInt]) (by decide) (by decide) (by decide +kernel) ⟨⟨by omega, by omega⟩, ⟨by omega, by omega⟩, ⟨by omega, by omega⟩, trivial⟩ trivial (yT_k (yV_v (j := 0) rfl) (yT_k (yV_v (j := 1) rfl) (yT_k (yV_v (j := 2) rfl) trivial)))
    · skip
      exact zBox_I (n := 1000000) (as := [.inr (.inr (.inr (.inl [(1, [0])]))), .inr (.inr (.inr (.inl [(1, [1])]))), .inr (.inr (.inr (.inl [(1, [2])])))]) (bs := [(2, 2147483647), (-2147483648, 2147483647), (-2147483648, 2147483647)]) (T := []) (l := [(a 1).toInt, (a 2).toInt, (a 3).toInt]) (by decide) (by decide) (by decide +kernel) ⟨⟨by omega, by omega⟩, ⟨by omega, by omega⟩, ⟨by omega, by omega⟩, trivial⟩ trivial (yT_k (yV_v (j := 0) rfl) (yT_k (yV_v (j := 1) rfl) (yT_k (yV_v (j := 2) rfl) trivial)))
