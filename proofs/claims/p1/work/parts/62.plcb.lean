/-! CALLS WITH PLACES, RUN THROUGH BY THE KERNEL. By program (wip/tools/mk60.py). -/
-- walk
set_option maxRecDepth 1000000 in
set_option maxHeartbeats 8000000 in
theorem o_24 (a : Nat → Int32) : lOweK 57 w0e 24 a := by
  show lOweI 57 w0e 146 278 [.int (a 1), .int (a 2), .int (a 3), .int (a 4)]
  have hl0 := Int32.le_toInt (a 1)
  have hg0 := Int32.toInt_lt (a 1)
  have hl1 := Int32.le_toInt (a 2)
  have hg1 := Int32.toInt_lt (a 2)
  have hl2 := Int32.le_toInt (a 3)
  have hg2 := Int32.toInt_lt (a 3)
  have hl3 := Int32.le_toInt (a 4)
  have hg3 := Int32.toInt_lt (a 4)
  rcases izc (a 1).toInt (0) with h1 | h1
  · skip
    exact zBox_I (n := 1000000) (as := [.inr (.inr (.inr (.inl [(1, [0])]))), .inr (.inr (.inr (.inl [(1, [1])]))), .inr (.inr (.inr (.inl [(1, [2])]))), .inr (.inr (.inr (.inl [(1, [3])])))]) (bs := [(-2147483648, -1), (-2147483648, 2147483647), (-2147483648, 2147483647), (-2147483648, 2147483647)]) (T := []) (l := [(a 1).toInt, (a 2).toInt, (a 3).toInt, (a 4).toInt]) (by decide) (by decide) (by decide +kernel) ⟨⟨by omega, by omega⟩, ⟨by omega, by omega⟩, ⟨by omega, by omega⟩, ⟨by omega, by omega⟩, trivial⟩ trivial (yT_k (yV_v (j := 0) rfl) (yT_k (yV_v (j := 1) rfl) (yT_k (yV_v (j := 2) rfl) (yT_k (yV_v (j := 3) rfl) trivial))))
  · skip
    rcases izc (a 1).toInt (2) with h2 | h2
    · skip
      rcases izc (a 2).toInt (-1000) with h3 | h3
      · skip
        exact zBox_I (n := 1000000) (as := [.inr (.inr (.inr (.inl [(1, [0])]))), .inr (.inr (.inr (.inl [(1, [1])]))), .inr (.inr (.inr (.inl [(1, [2])]))), .inr (.inr (.inr (.inl [(1, [3])])))]) (bs := [(0, 1), (-2147483648, -1001), (-2147483648, 2147483647), (-2147483648, 2147483647)]) (T := []) (l := [(a 1).toInt, (a 2).toInt, (a 3).toInt, (a 4).toInt]) (by decide) (by decide) (by decide +kernel) ⟨⟨by omega, by omega⟩, ⟨by omega, by omega⟩, ⟨by omega, by omega⟩, ⟨by omega, by omega⟩, trivial⟩ trivial (yT_k (yV_v (j := 0) rfl) (yT_k (yV_v (j := 1) rfl) (yT_k (yV_v (j := 2) rfl) (yT_k (yV_v (j := 3) rfl) trivial))))
      · skip
        rcases izc (a 2).toInt (1000) with h4 | h4
        · skip
          rcases izc (a 3).toInt (-1000) with h5 | h5
          · skip
            exact zBox_I (n := 1000000) (as := [.inr (.inr (.inr (.inl [(1, [0])]))), .inr (.inr (.inr (.inl [(1, [1])]))), .inr (.inr (.inr (.inl [(1, [2])]))), .inr (.inr (.inr (.inl [(1, [3])])))]) (bs := [(0, 1), (-1000, 999), (-2147483648, -1001), (-2147483648, 2147483647)]) (T := []) (l := [(a 1).toInt, (a 2).toInt, (a 3).toInt, (a 4).toInt]) (by decide) (by decide) (by decide +kernel) ⟨⟨by omega, by omega⟩, ⟨by omega, by omega⟩, ⟨by omega, by omega⟩, ⟨by omega, by omega⟩, trivial⟩ trivial (yT_k (yV_v (j := 0) rfl) (yT_k (yV_v (j := 1) rfl) (yT_k (yV_v (j := 2) rfl) (yT_k (yV_v (j := 3) rfl) trivial))))
          · skip
            rcases izc (a 3).toInt (1000) with h6 | h6
            · skip
              rcases izc (a 4).toInt (0) with h7 | h7
              · skip
                exact zBox_I (n := 1000000) (as := [.inr (.inr (.inr (.inl [(1, [0])]))), .inr (.inr (.inr (.inl [(1, [1])]))), .inr (.inr (.inr (.inl [(1, [2])]))), .inr (.inr (.inr (.inl [(1, [3])])))]) (bs := [(0, 1), (-1000, 999), (-1000, 999), (-2147483648, -1)]) (T := []) (l := [(a 1).toInt, (a 2).toInt, (a 3).toInt, (a 4).toInt]) (by decide) (by decide) (by decide +kernel) ⟨⟨by omega, by omega⟩, ⟨by omega, by omega⟩, ⟨by omega, by omega⟩, ⟨by omega, by omega⟩, trivial⟩ trivial (yT_k (yV_v (j := 0) rfl) (yT_k (yV_v (j := 1) rfl) (yT_k (yV_v (j := 2) rfl) (yT_k (yV_v (j := 3) rfl) trivial))))
              · skip
                rcases izc (a 4).toInt (2) with h8 | h8
                · skip
                  rcases izc (a 1).toInt (1) with h9 | h9
                  · skip
                    rcases Int.lt_trichotomy (-1 * ((a 2).toInt) + 1 * ((a 3).toInt)) 0 with h10 | h10 | h10
                    · skip
                      rcases izc (a 4).toInt (1) with h11 | h11
                      · skip
                        exact zBox_I (n := 1000000) (as := [.inl 0, .inr (.inr (.inr (.inl [(1, [1])]))), .inr (.inr (.inr (.inl [(1, [2])]))), .inl 0]) (bs := [(0, 0), (-1000, 999), (-1000, 999), (0, 0)]) (T := [([(2000, [1]), (-2000, [2])], (false, false, true))]) (l := [(a 1).toInt, (a 2).toInt, (a 3).toInt, (a 4).toInt]) (by decide) (by decide) (by decide +kernel) ⟨⟨by omega, by omega⟩, ⟨by omega, by omega⟩, ⟨by omega, by omega⟩, ⟨by omega, by omega⟩, trivial⟩ ⟨sg_p (by show 0 < ((2000 : Int) * ((a 2).toInt * 1) + ((-2000 : Int) * ((a 3).toInt * 1) + 0)); (try simp only [Int.mul_one]); omega), trivial⟩ (yT_k (yV_c (c := 0) (by decide) (by decide) (by omega)) (yT_k (yV_v (j := 1) rfl) (yT_k (yV_v (j := 2) rfl) (yT_k (yV_c (c := 0) (by decide) (by decide) (by omega)) trivial))))
                      · skip
                        exact zBox_I (n := 1000000) (as := [.inl 0, .inr (.inr (.inr (.inl [(1, [1])]))), .inr (.inr (.inr (.inl [(1, [2])]))), .inl 1]) (bs := [(0, 0), (-1000, 999), (-1000, 999), (1, 1)]) (T := [([(2000, [1]), (-2000, [2])], (false, false, true))]) (l := [(a 1).toInt, (a 2).toInt, (a 3).toInt, (a 4).toInt]) (by decide) (by decide) (by decide +kernel) ⟨⟨by omega, by omega⟩, ⟨by omega, by omega⟩, ⟨by omega, by omega⟩, ⟨by omega, by omega⟩, trivial⟩ ⟨sg_p (by show 0 < ((2000 : Int) * ((a 2).toInt * 1) + ((-2000 : Int) * ((a 3).toInt * 1) + 0)); (try simp only [Int.mul_one]); omega), trivial⟩ (yT_k (yV_c (c := 0) (by decide) (by decide) (by omega)) (yT_k (yV_v (j := 1) rfl) (yT_k (yV_v (j := 2) rfl) (yT_k (yV_c (c := 1) (by decide) (by decide) (by omega)) trivial))))
                    · skip
                      rcases izc (a 4).toInt (1) with h11 | h11
                      · skip
                        exact zBox_I (n := 1000000) (as := [.inl 0, .inr (.inr (.inr (.inl [(1, [1])]))), .inr (.inr (.inr (.inl [(1, [2])]))), .inl 0]) (bs := [(0, 0), (-1000, 999), (-1000, 999), (0, 0)]) (T := [([(2000, [1]), (-2000, [2])], (false, true, false))]) (l := [(a 1).toInt, (a 2).toInt, (a 3).toInt, (a 4).toInt]) (by decide) (by decide) (by decide +kernel) ⟨⟨by omega, by omega⟩, ⟨by omega, by omega⟩, ⟨by omega, by omega⟩, ⟨by omega, by omega⟩, trivial⟩ ⟨sg_z (by show ((2000 : Int) * ((a 2).toInt * 1) + ((-2000 : Int) * ((a 3).toInt * 1) + 0)) = 0; (try simp only [Int.mul_one]); omega), trivial⟩ (yT_k (yV_c (c := 0) (by decide) (by decide) (by omega)) (yT_k (yV_v (j := 1) rfl) (yT_k (yV_v (j := 2) rfl) (yT_k (yV_c (c := 0) (by decide) (by decide) (by omega)) trivial))))
                      · skip
                        exact zBox_I (n := 1000000) (as := [.inl 0, .inr (.inr (.inr (.inl [(1, [1])]))), .inr (.inr (.inr (.inl [(1, [2])]))), .inl 1]) (bs := [(0, 0), (-1000, 999), (-1000, 999), (1, 1)]) (T := [([(2000, [1]), (-2000, [2])], (false, true, false))]) (l := [(a 1).toInt, (a 2).toInt, (a 3).toInt, (a 4).toInt]) (by decide) (by decide) (by decide +kernel) ⟨⟨by omega, by omega⟩, ⟨by omega, by omega⟩, ⟨by omega, by omega⟩, ⟨by omega, by omega⟩, trivial⟩ ⟨sg_z (by show ((2000 : Int) * ((a 2).toInt * 1) + ((-2000 : Int) * ((a 3).toInt * 1) + 0)) = 0; (try simp only [Int.mul_one]); omega), trivial⟩ (yT_k (yV_c (c := 0) (by decide) (by decide) (by omega)) (yT_k (yV_v (j := 1) rfl) (yT_k (yV_v (j := 2) rfl) (yT_k (yV_c (c := 1) (by decide) (by decide) (by omega)) trivial))))
                    · skip
                      rcases izc (a 4).toInt (1) with h11 | h11
                      · skip
                        exact zBox_I (n := 1000000) (as := [.inl 0, .inr (.inr (.inr (.inl [(1, [1])]))), .inr (.inr (.inr (.inl [(1, [2])]))), .inl 0]) (bs := [(0, 0), (-1000, 999), (-1000, 999), (0, 0)]) (T := [([(2000, [1]), (-2000, [2])], (true, false, false))]) (l := [(a 1).toInt, (a 2).toInt, (a 3).toInt, (a 4).toInt]) (by decide) (by decide) (by decide +kernel) ⟨⟨by omega, by omega⟩, ⟨by omega, by omega⟩, ⟨by omega, by omega⟩, ⟨by omega, by omega⟩, trivial⟩ ⟨sg_n (by show ((2000 : Int) * ((a 2).toInt * 1) + ((-2000 : Int) * ((a 3).toInt * 1) + 0)) < 0; (try simp only [Int.mul_one]); omega), trivial⟩ (yT_k (yV_c (c := 0) (by decide) (by decide) (by omega)) (yT_k (yV_v (j := 1) rfl) (yT_k (yV_v (j := 2) rfl) (yT_k (yV_c (c := 0) (by decide) (by decide) (by omega)) trivial))))
                      · skip
                        exact zBox_I (n := 1000000) (as := [.inl 0, .inr (.inr (.inr (.inl [(1, [1])]))), .inr (.inr (.inr (.inl [(1, [2])]))), .inl 1]) (bs := [(0, 0), (-1000, 999), (-1000, 999), (1, 1)]) (T := [([(2000, [1]), (-2000, [2])], (true, false, false))]) (l := [(a 1).toInt, (a 2).toInt, (a 3).toInt, (a 4).toInt]) (by decide) (by decide) (by decide +kernel) ⟨⟨by omega, by omega⟩, ⟨by omega, by omega⟩, ⟨by omega, by omega⟩, ⟨by omega, by omega⟩, trivial⟩ ⟨sg_n (by show ((2000 : Int) * ((a 2).toInt * 1) + ((-2000 : Int) * ((a 3).toInt * 1) + 0)) < 0; (try simp only [Int.mul_one]); omega), trivial⟩ (yT_k (yV_c (c := 0) (by decide) (by decide) (by omega)) (yT_k (yV_v (j := 1) rfl) (yT_k (yV_v (j := 2) rfl) (yT_k (yV_c (c := 1) (by decide) (by decide) (by omega)) trivial))))
                  · skip
                    rcases Int.lt_trichotomy (-1 * ((a 2).toInt) + 1 * ((a 3).toInt)) 0 with h10 | h10 | h10
                    · skip
                      rcases izc (a 4).toInt (1) with h11 | h11
                      · skip
                        exact zBox_I (n := 1000000) (as := [.inl 1, .inr (.inr (.inr (.inl [(1, [1])]))), .inr (.inr (.inr (.inl [(1, [2])]))), .inl 0]) (bs := [(1, 1), (-1000, 999), (-1000, 999), (0, 0)]) (T := [([(-2000, [1]), (2000, [2])], (true, false, false))]) (l := [(a 1).toInt, (a 2).toInt, (a 3).toInt, (a 4).toInt]) (by decide) (by decide) (by decide +kernel) ⟨⟨by omega, by omega⟩, ⟨by omega, by omega⟩, ⟨by omega, by omega⟩, ⟨by omega, by omega⟩, trivial⟩ ⟨sg_n (by show ((-2000 : Int) * ((a 2).toInt * 1) + ((2000 : Int) * ((a 3).toInt * 1) + 0)) < 0; (try simp only [Int.mul_one]); omega), trivial⟩ (yT_k (yV_c (c := 1) (by decide) (by decide) (by omega)) (yT_k (yV_v (j := 1) rfl) (yT_k (yV_v (j := 2) rfl) (yT_k (yV_c (c := 0) (by decide) (by decide) (by omega)) trivial))))
                      · skip
                        exact zBox_I (n := 1000000) (as := [.inl 1, .inr (.inr (.inr (.inl [(1, [1])]))), .inr (.inr (.inr (.inl [(1, [2])]))), .inl 1]) (bs := [(1, 1), (-1000, 999), (-1000, 999), (1, 1)]) (T := [([(-2000, [1]), (2000, [2])], (true, false, false))]) (l := [(a 1).toInt, (a 2).toInt, (a 3).toInt, (a 4).toInt]) (by decide) (by decide) (by decide +kernel) ⟨⟨by omega, by omega⟩, ⟨by omega, by omega⟩, ⟨by omega, by omega⟩, ⟨by omega, by omega⟩, trivial⟩ ⟨sg_n (by show ((-2000 : Int) * ((a 2).toInt * 1) + ((2000 : Int) * ((a 3).toInt * 1) + 0)) < 0; (try simp only [Int.mul_one]); omega), trivial⟩ (yT_k (yV_c (c := 1) (by decide) (by decide) (by omega)) (yT_k (yV_v (j := 1) rfl) (yT_k (yV_v (j := 2) rfl) (yT_k (yV_c (c := 1) (by decide) (by decide) (by omega)) trivial))))
                    · skip
                      rcases izc (a 4).toInt (1) with h11 | h11
                      · skip
                        exact zBox_I (n := 1000000) (as := [.inl 1, .inr (.inr (.inr (.inl [(1, [1])]))), .inr (.inr (.inr (.inl [(1, [2])]))), .inl 0]) (bs := [(1, 1), (-1000, 999), (-1000, 999), (0, 0)]) (T := [([(-2000, [1]), (2000, [2])], (false, true, false))]) (l := [(a 1).toInt, (a 2).toInt, (a 3).toInt, (a 4).toInt]) (by decide) (by decide) (by decide +kernel) ⟨⟨by omega, by omega⟩, ⟨by omega, by omega⟩, ⟨by omega, by omega⟩, ⟨by omega, by omega⟩, trivial⟩ ⟨sg_z (by show ((-2000 : Int) * ((a 2).toInt * 1) + ((2000 : Int) * ((a 3).toInt * 1) + 0)) = 0; (try simp only [Int.mul_one]); omega), trivial⟩ (yT_k (yV_c (c := 1) (by decide) (by decide) (by omega)) (yT_k (yV_v (j := 1) rfl) (yT_k (yV_v (j := 2) rfl) (yT_k (yV_c (c := 0) (by decide) (by decide) (by omega)) trivial))))
                      · skip
                        exact zBox_I (n := 1000000) (as := [.inl 1, .inr (.inr (.inr (.inl [(1, [1])]))), .inr (.inr (.inr (.inl [(1, [2])]))), .inl 1]) (bs := [(1, 1), (-1000, 999), (-1000, 999), (1, 1)]) (T := [([(-2000, [1]), (2000, [2])], (false, true, false))]) (l := [(a 1).toInt, (a 2).toInt, (a 3).toInt, (a 4).toInt]) (by decide) (by decide) (by decide +kernel) ⟨⟨by omega, by omega⟩, ⟨by omega, by omega⟩, ⟨by omega, by omega⟩, ⟨by omega, by omega⟩, trivial⟩ ⟨sg_z (by show ((-2000 : Int) * ((a 2).toInt * 1) + ((2000 : Int) * ((a 3).toInt * 1) + 0)) = 0; (try simp only [Int.mul_one]); omega), trivial⟩ (yT_k (yV_c (c := 1) (by decide) (by decide) (by omega)) (yT_k (yV_v (j := 1) rfl) (yT_k (yV_v (j := 2) rfl) (yT_k (yV_c (c := 1) (by decide) (by decide) (by omega)) trivial))))
                    · skip
                      rcases izc (a 4).toInt (1) with h11 | h11
                      · skip
                        exact zBox_I (n := 1000000) (as := [.inl 1, .inr (.inr (.inr (.inl [(1, [1])]))), .inr (.inr (.inr (.inl [(1, [2])]))), .inl 0]) (bs := [(1, 1), (-1000, 999), (-1000, 999), (0, 0)]) (T := [([(-2000, [1]), (2000, [2])], (false, false, true))]) (l := [(a 1).toInt, (a 2).toInt, (a 3).toInt, (a 4).toInt]) (by decide) (by decide) (by decide +kernel) ⟨⟨by omega, by omega⟩, ⟨by omega, by omega⟩, ⟨by omega, by omega⟩, ⟨by omega, by omega⟩, trivial⟩ ⟨sg_p (by show 0 < ((-2000 : Int) * ((a 2).toInt * 1) + ((2000 : Int) * ((a 3).toInt * 1) + 0)); (try simp only [Int.mul_one]); omega), trivial⟩ (yT_k (yV_c (c := 1) (by decide) (by decide) (by omega)) (yT_k (yV_v (j := 1) rfl) (yT_k (yV_v (j := 2) rfl) (yT_k (yV_c (c := 0) (by decide) (by decide) (by omega)) trivial))))
                      · skip
                        exact zBox_I (n := 1000000) (as := [.inl 1, .inr (.inr (.inr (.inl [(1, [1])]))), .inr (.inr (.inr (.inl [(1, [2])]))), .inl 1]) (bs := [(1, 1), (-1000, 999), (-1000, 999), (1, 1)]) (T := [([(-2000, [1]), (2000, [2])], (false, false, true))]) (l := [(a 1).toInt, (a 2).toInt, (a 3).toInt, (a 4).toInt]) (by decide) (by decide) (by decide +kernel) ⟨⟨by omega, by omega⟩, ⟨by omega, by omega⟩, ⟨by omega, by omega⟩, ⟨by omega, by omega⟩, trivial⟩ ⟨sg_p (by show 0 < ((-2000 : Int) * ((a 2).toInt * 1) + ((2000 : Int) * ((a 3).toInt * 1) + 0)); (try simp only [Int.mul_one]); omega), trivial⟩ (yT_k (yV_c (c := 1) (by decide) (by decide) (by omega)) (yT_k (yV_v (j := 1) rfl) (yT_k (yV_v (j := 2) rfl) (yT_k (yV_c (c := 1) (by decide) (by decide) (by omega)) trivial))))
                · skip
                  rcases izc (a 4).toInt (3) with h9 | h9
                  · skip
                    rcases izc (a 1).toInt (1) with h10 | h10
                    · skip
                      rcases Int.lt_trichotomy (-1 * ((a 2).toInt) + 1 * ((a 3).toInt)) 0 with h11 | h11 | h11
                      · skip
                        exact zBox_I (n := 1000000) (as := [.inl 0, .inr (.inr (.inr (.inl [(1, [1])]))), .inr (.inr (.inr (.inl [(1, [2])]))), .inl 2]) (bs := [(0, 0), (-1000, 999), (-1000, 999), (2, 2)]) (T := [([(2000, [1]), (-2000, [2])], (false, false, true))]) (l := [(a 1).toInt, (a 2).toInt, (a 3).toInt, (a 4).toInt]) (by decide) (by decide) (by decide +kernel) ⟨⟨by omega, by omega⟩, ⟨by omega, by omega⟩, ⟨by omega, by omega⟩, ⟨by omega, by omega⟩, trivial⟩ ⟨sg_p (by show 0 < ((2000 : Int) * ((a 2).toInt * 1) + ((-2000 : Int) * ((a 3).toInt * 1) + 0)); (try simp only [Int.mul_one]); omega), trivial⟩ (yT_k (yV_c (c := 0) (by decide) (by decide) (by omega)) (yT_k (yV_v (j := 1) rfl) (yT_k (yV_v (j := 2) rfl) (yT_k (yV_c (c := 2) (by decide) (by decide) (by omega)) trivial))))
                      · skip
                        exact zBox_I (n := 1000000) (as := [.inl 0, .inr (.inr (.inr (.inl [(1, [1])]))), .inr (.inr (.inr (.inl [(1, [2])]))), .inl 2]) (bs := [(0, 0), (-1000, 999), (-1000, 999), (2, 2)]) (T := [([(2000, [1]), (-2000, [2])], (false, true, false))]) (l := [(a 1).toInt, (a 2).toInt, (a 3).toInt, (a 4).toInt]) (by decide) (by decide) (by decide +kernel) ⟨⟨by omega, by omega⟩, ⟨by omega, by omega⟩, ⟨by omega, by omega⟩, ⟨by omega, by omega⟩, trivial⟩ ⟨sg_z (by show ((2000 : Int) * ((a 2).toInt * 1) + ((-2000 : Int) * ((a 3).toInt * 1) + 0)) = 0; (try simp only [Int.mul_one]); omega), trivial⟩ (yT_k (yV_c (c := 0) (by decide) (by decide) (by omega)) (yT_k (yV_v (j := 1) rfl) (yT_k (yV_v (j := 2) rfl) (yT_k (yV_c (c := 2) (by decide) (by decide) (by omega)) trivial))))
                      · skip
                        exact zBox_I (n := 1000000) (as := [.inl 0, .inr (.inr (.inr (.inl [(1, [1])]))), .inr (.inr (.inr (.inl [(1, [2])]))), .inl 2]) (bs := [(0, 0), (-1000, 999), (-1000, 999), (2, 2)]) (T := [([(2000, [1]), (-2000, [2])], (true, false, false)), ([(-2000, [1]), (2000, [2])], (false, false, true))]) (l := [(a 1).toInt, (a 2).toInt, (a 3).toInt, (a 4).toInt]) (by decide) (by decide) (by decide +kernel) ⟨⟨by omega, by omega⟩, ⟨by omega, by omega⟩, ⟨by omega, by omega⟩, ⟨by omega, by omega⟩, trivial⟩ ⟨sg_n (by show ((2000 : Int) * ((a 2).toInt * 1) + ((-2000 : Int) * ((a 3).toInt * 1) + 0)) < 0; (try simp only [Int.mul_one]); omega), sg_p (by show 0 < ((-2000 : Int) * ((a 2).toInt * 1) + ((2000 : Int) * ((a 3).toInt * 1) + 0)); (try simp only [Int.mul_one]); omega), trivial⟩ (yT_k (yV_c (c := 0) (by decide) (by decide) (by omega)) (yT_k (yV_v (j := 1) rfl) (yT_k (yV_v (j := 2) rfl) (yT_k (yV_c (c := 2) (by decide) (by decide) (by omega)) trivial))))
                    · skip
                      rcases Int.lt_trichotomy (-1 * ((a 2).toInt) + 1 * ((a 3).toInt)) 0 with h11 | h11 | h11
                      · skip
                        exact zBox_I (n := 1000000) (as := [.inl 1, .inr (.inr (.inr (.inl [(1, [1])]))), .inr (.inr (.inr (.inl [(1, [2])]))), .inl 2]) (bs := [(1, 1), (-1000, 999), (-1000, 999), (2, 2)]) (T := [([(-2000, [1]), (2000, [2])], (true, false, false)), ([(2000, [1]), (-2000, [2])], (false, false, true))]) (l := [(a 1).toInt, (a 2).toInt, (a 3).toInt, (a 4).toInt]) (by decide) (by decide) (by decide +kernel) ⟨⟨by omega, by omega⟩, ⟨by omega, by omega⟩, ⟨by omega, by omega⟩, ⟨by omega, by omega⟩, trivial⟩ ⟨sg_n (by show ((-2000 : Int) * ((a 2).toInt * 1) + ((2000 : Int) * ((a 3).toInt * 1) + 0)) < 0; (try simp only [Int.mul_one]); omega), sg_p (by show 0 < ((2000 : Int) * ((a 2).toInt * 1) + ((-2000 : Int) * ((a 3).toInt * 1) + 0)); (try simp only [Int.mul_one]); omega), trivial⟩ (yT_k (yV_c (c := 1) (by decide) (by decide) (by omega)) (yT_k (yV_v (j := 1) rfl) (yT_k (yV_v (j := 2) rfl) (yT_k (yV_c (c := 2) (by decide) (by decide) (by omega)) trivial))))
                      · skip
                        exact zBox_I (n := 1000000) (as := [.inl 1, .inr (.inr (.inr (.inl [(1, [1])]))), .inr (.inr (.inr (.inl [(1, [2])]))), .inl 2]) (bs := [(1, 1), (-1000, 999), (-1000, 999), (2, 2)]) (T := [([(-2000, [1]), (2000, [2])], (false, true, false))]) (l := [(a 1).toInt, (a 2).toInt, (a 3).toInt, (a 4).toInt]) (by decide) (by decide) (by decide +kernel) ⟨⟨by omega, by omega⟩, ⟨by omega, by omega⟩, ⟨by omega, by omega⟩, ⟨by omega, by omega⟩, trivial⟩ ⟨sg_z (by show ((-2000 : Int) * ((a 2).toInt * 1) + ((2000 : Int) * ((a 3).toInt * 1) + 0)) = 0; (try simp only [Int.mul_one]); omega), trivial⟩ (yT_k (yV_c (c := 1) (by decide) (by decide) (by omega)) (yT_k (yV_v (j := 1) rfl) (yT_k (yV_v (j := 2) rfl) (yT_k (yV_c (c := 2) (by decide) (by decide) (by omega)) trivial))))
                      · skip
                        exact zBox_I (n := 1000000) (as := [.inl 1, .inr (.inr (.inr (.inl [(1, [1])]))), .inr (.inr (.inr (.inl [(1, [2])]))), .inl 2]) (bs := [(1, 1), (-1000, 999), (-1000, 999), (2, 2)]) (T := [([(-2000, [1]), (2000, [2])], (false, false, true))]) (l := [(a 1).toInt, (a 2).toInt, (a 3).toInt, (a 4).toInt]) (by decide) (by decide) (by decide +kernel) ⟨⟨by omega, by omega⟩, ⟨by omega, by omega⟩, ⟨by omega, by omega⟩, ⟨by omega, by omega⟩, trivial⟩ ⟨sg_p (by show 0 < ((-2000 : Int) * ((a 2).toInt * 1) + ((2000 : Int) * ((a 3).toInt * 1) + 0)); (try simp only [Int.mul_one]); omega), trivial⟩ (yT_k (yV_c (c := 1) (by decide) (by decide) (by omega)) (yT_k (yV_v (j := 1) rfl) (yT_k (yV_v (j := 2) rfl) (yT_k (yV_c (c := 2) (by decide) (by decide) (by omega)) trivial))))
                  · skip
                    exact zBox_I (n := 1000000) (as := [.inr (.inr (.inr (.inl [(1, [0])]))), .inr (.inr (.inr (.inl [(1, [1])]))), .inr (.inr (.inr (.inl [(1, [2])]))), .inr (.inr (.inr (.inl [(1, [3])])))]) (bs := [(0, 1), (-1000, 999), (-1000, 999), (3, 2147483647)]) (T := []) (l := [(a 1).toInt, (a 2).toInt, (a 3).toInt, (a 4).toInt]) (by decide) (by decide) (by decide +kernel) ⟨⟨by omega, by omega⟩, ⟨by omega, by omega⟩, ⟨by omega, by omega⟩, ⟨by omega, by omega⟩, trivial⟩ trivial (yT_k (yV_v (j := 0) rfl) (yT_k (yV_v (j := 1) rfl) (yT_k (yV_v (j := 2) rfl) (yT_k (yV_v (j := 3) rfl) trivial))))
            · skip
              rcases izc (a 3).toInt (1001) with h7 | h7
              · skip
                rcases izc (a 4).toInt (0) with h8 | h8
                · skip
                  exact zBox_I (n := 1000000) (as := [.inr (.inr (.inr (.inl [(1, [0])]))), .inr (.inr (.inr (.inl [(1, [1])]))), .inl 1000, .inr (.inr (.inr (.inl [(1, [3])])))]) (bs := [(0, 1), (-1000, 999), (1000, 1000), (-2147483648, -1)]) (T := []) (l := [(a 1).toInt, (a 2).toInt, (a 3).toInt, (a 4).toInt]) (by decide) (by decide) (by decide +kernel) ⟨⟨by omega, by omega⟩, ⟨by omega, by omega⟩, ⟨by omega, by omega⟩, ⟨by omega, by omega⟩, trivial⟩ trivial (yT_k (yV_v (j := 0) rfl) (yT_k (yV_v (j := 1) rfl) (yT_k (yV_c (c := 1000) (by decide) (by decide) (by omega)) (yT_k (yV_v (j := 3) rfl) trivial))))
                · skip
                  rcases izc (a 4).toInt (2) with h9 | h9
                  · skip
                    rcases izc (a 1).toInt (1) with h10 | h10
                    · skip
                      rcases izc (a 4).toInt (1) with h11 | h11
                      · skip
                        exact zBox_I (n := 1000000) (as := [.inl 0, .inr (.inr (.inr (.inl [(1, [1])]))), .inl 1000, .inl 0]) (bs := [(0, 0), (-1000, 999), (1000, 1000), (0, 0)]) (T := []) (l := [(a 1).toInt, (a 2).toInt, (a 3).toInt, (a 4).toInt]) (by decide) (by decide) (by decide +kernel) ⟨⟨by omega, by omega⟩, ⟨by omega, by omega⟩, ⟨by omega, by omega⟩, ⟨by omega, by omega⟩, trivial⟩ trivial (yT_k (yV_c (c := 0) (by decide) (by decide) (by omega)) (yT_k (yV_v (j := 1) rfl) (yT_k (yV_c (c := 1000) (by decide) (by decide) (by omega)) (yT_k (yV_c (c := 0) (by decide) (by decide) (by omega)) trivial))))
                      · skip
                        exact zBox_I (n := 1000000) (as := [.inl 0, .inr (.inr (.inr (.inl [(1, [1])]))), .inl 1000, .inl 1]) (bs := [(0, 0), (-1000, 999), (1000, 1000), (1, 1)]) (T := []) (l := [(a 1).toInt, (a 2).toInt, (a 3).toInt, (a 4).toInt]) (by decide) (by decide) (by decide +kernel) ⟨⟨by omega, by omega⟩, ⟨by omega, by omega⟩, ⟨by omega, by omega⟩, ⟨by omega, by omega⟩, trivial⟩ trivial (yT_k (yV_c (c := 0) (by decide) (by decide) (by omega)) (yT_k (yV_v (j := 1) rfl) (yT_k (yV_c (c := 1000) (by decide) (by decide) (by omega)) (yT_k (yV_c (c := 1) (by decide) (by decide) (by omega)) trivial))))
                    · skip
                      rcases izc (a 4).toInt (1) with h11 | h11
                      · skip
                        exact zBox_I (n := 1000000) (as := [.inl 1, .inr (.inr (.inr (.inl [(1, [1])]))), .inl 1000, .inl 0]) (bs := [(1, 1), (-1000, 999), (1000, 1000), (0, 0)]) (T := []) (l := [(a 1).toInt, (a 2).toInt, (a 3).toInt, (a 4).toInt]) (by decide) (by decide) (by decide +kernel) ⟨⟨by omega, by omega⟩, ⟨by omega, by omega⟩, ⟨by omega, by omega⟩, ⟨by omega, by omega⟩, trivial⟩ trivial (yT_k (yV_c (c := 1) (by decide) (by decide) (by omega)) (yT_k (yV_v (j := 1) rfl) (yT_k (yV_c (c := 1000) (by decide) (by decide) (by omega)) (yT_k (yV_c (c := 0) (by decide) (by decide) (by omega)) trivial))))
                      · skip
                        exact zBox_I (n := 1000000) (as := [.inl 1, .inr (.inr (.inr (.inl [(1, [1])]))), .inl 1000, .inl 1]) (bs := [(1, 1), (-1000, 999), (1000, 1000), (1, 1)]) (T := []) (l := [(a 1).toInt, (a 2).toInt, (a 3).toInt, (a 4).toInt]) (by decide) (by decide) (by decide +kernel) ⟨⟨by omega, by omega⟩, ⟨by omega, by omega⟩, ⟨by omega, by omega⟩, ⟨by omega, by omega⟩, trivial⟩ trivial (yT_k (yV_c (c := 1) (by decide) (by decide) (by omega)) (yT_k (yV_v (j := 1) rfl) (yT_k (yV_c (c := 1000) (by decide) (by decide) (by omega)) (yT_k (yV_c (c := 1) (by decide) (by decide) (by omega)) trivial))))
                  · skip
                    rcases izc (a 4).toInt (3) with h10 | h10
                    · skip
                      rcases izc (a 1).toInt (1) with h11 | h11
                      · skip
                        exact zBox_I (n := 1000000) (as := [.inl 0, .inr (.inr (.inr (.inl [(1, [1])]))), .inl 1000, .inl 2]) (bs := [(0, 0), (-1000, 999), (1000, 1000), (2, 2)]) (T := []) (l := [(a 1).toInt, (a 2).toInt, (a 3).toInt, (a 4).toInt]) (by decide) (by decide) (by decide +kernel) ⟨⟨by omega, by omega⟩, ⟨by omega, by omega⟩, ⟨by omega, by omega⟩, ⟨by omega, by omega⟩, trivial⟩ trivial (yT_k (yV_c (c := 0) (by decide) (by decide) (by omega)) (yT_k (yV_v (j := 1) rfl) (yT_k (yV_c (c := 1000) (by decide) (by decide) (by omega)) (yT_k (yV_c (c := 2) (by decide) (by decide) (by omega)) trivial))))
                      · skip
                        exact zBox_I (n := 1000000) (as := [.inl 1, .inr (.inr (.inr (.inl [(1, [1])]))), .inl 1000, .inl 2]) (bs := [(1, 1), (-1000, 999), (1000, 1000), (2, 2)]) (T := []) (l := [(a 1).toInt, (a 2).toInt, (a 3).toInt, (a 4).toInt]) (by decide) (by decide) (by decide +kernel) ⟨⟨by omega, by omega⟩, ⟨by omega, by omega⟩, ⟨by omega, by omega⟩, ⟨by omega, by omega⟩, trivial⟩ trivial (yT_k (yV_c (c := 1) (by decide) (by decide) (by omega)) (yT_k (yV_v (j := 1) rfl) (yT_k (yV_c (c := 1000) (by decide) (by decide) (by omega)) (yT_k (yV_c (c := 2) (by decide) (by decide) (by omega)) trivial))))
                    · skip
                      exact zBox_I (n := 1000000) (as := [.inr (.inr (.inr (.inl [(1, [0])]))), .inr (.inr (.inr (.inl [(1, [1])]))), .inl 1000, .inr (.inr (.inr (.inl [(1, [3])])))]) (bs := [(0, 1), (-1000, 999), (1000, 1000), (3, 2147483647)]) (T := []) (l := [(a 1).toInt, (a 2).toInt, (a 3).toInt, (a 4).toInt]) (by decide) (by decide) (by decide +kernel) ⟨⟨by omega, by omega⟩, ⟨by omega, by omega⟩, ⟨by omega, by omega⟩, ⟨by omega, by omega⟩, trivial⟩ trivial (yT_k (yV_v (j := 0) rfl) (yT_k (yV_v (j := 1) rfl) (yT_k (yV_c (c := 1000) (by decide) (by decide) (by omega)) (yT_k (yV_v (j := 3) rfl) trivial))))
              · skip
                exact zBox_I (n := 1000000) (as := [.inr (.inr (.inr (.inl [(1, [0])]))), .inr (.inr (.inr (.inl [(1, [1])]))), .inr (.inr (.inr (.inl [(1, [2])]))), .inr (.inr (.inr (.inl [(1, [3])])))]) (bs := [(0, 1), (-1000, 999), (1001, 2147483647), (-2147483648, 2147483647)]) (T := []) (l := [(a 1).toInt, (a 2).toInt, (a 3).toInt, (a 4).toInt]) (by decide) (by decide) (by decide +kernel) ⟨⟨by omega, by omega⟩, ⟨by omega, by omega⟩, ⟨by omega, by omega⟩, ⟨by omega, by omega⟩, trivial⟩ trivial (yT_k (yV_v (j := 0) rfl) (yT_k (yV_v (j := 1) rfl) (yT_k (yV_v (j := 2) rfl) (yT_k (yV_v (j := 3) rfl) trivial))))
        · skip
          rcases izc (a 2).toInt (1001) with h5 | h5
          · skip
            rcases izc (a 3).toInt (-1000) with h6 | h6
            · skip
              exact zBox_I (n := 1000000) (as := [.inr (.inr (.inr (.inl [(1, [0])]))), .inl 1000, .inr (.inr (.inr (.inl [(1, [2])]))), .inr (.inr (.inr (.inl [(1, [3])])))]) (bs := [(0, 1), (1000, 1000), (-2147483648, -1001), (-2147483648, 2147483647)]) (T := []) (l := [(a 1).toInt, (a 2).toInt, (a 3).toInt, (a 4).toInt]) (by decide) (by decide) (by decide +kernel) ⟨⟨by omega, by omega⟩, ⟨by omega, by omega⟩, ⟨by omega, by omega⟩, ⟨by omega, by omega⟩, trivial⟩ trivial (yT_k (yV_v (j := 0) rfl) (yT_k (yV_c (c := 1000) (by decide) (by decide) (by omega)) (yT_k (yV_v (j := 2) rfl) (yT_k (yV_v (j := 3) rfl) trivial))))
            · skip
              rcases izc (a 3).toInt (1000) with h7 | h7
              · skip
                rcases izc (a 4).toInt (0) with h8 | h8
                · skip
                  exact zBox_I (n := 1000000) (as := [.inr (.inr (.inr (.inl [(1, [0])]))), .inl 1000, .inr (.inr (.inr (.inl [(1, [2])]))), .inr (.inr (.inr (.inl [(1, [3])])))]) (bs := [(0, 1), (1000, 1000), (-1000, 999), (-2147483648, -1)]) (T := []) (l := [(a 1).toInt, (a 2).toInt, (a 3).toInt, (a 4).toInt]) (by decide) (by decide) (by decide +kernel) ⟨⟨by omega, by omega⟩, ⟨by omega, by omega⟩, ⟨by omega, by omega⟩, ⟨by omega, by omega⟩, trivial⟩ trivial (yT_k (yV_v (j := 0) rfl) (yT_k (yV_c (c := 1000) (by decide) (by decide) (by omega)) (yT_k (yV_v (j := 2) rfl) (yT_k (yV_v (j := 3) rfl) trivial))))
                · skip
                  rcases izc (a 4).toInt (2) with h9 | h9
                  · skip
                    rcases izc (a 1).toInt (1) with h10 | h10
                    · skip
                      rcases izc (a 4).toInt (1) with h11 | h11
                      · skip
                        exact zBox_I (n := 1000000) (as := [.inl 0, .inl 1000, .inr (.inr (.inr (.inl [(1, [2])]))), .inl 0]) (bs := [(0, 0), (1000, 1000), (-1000, 999), (0, 0)]) (T := []) (l := [(a 1).toInt, (a 2).toInt, (a 3).toInt, (a 4).toInt]) (by decide) (by decide) (by decide +kernel) ⟨⟨by omega, by omega⟩, ⟨by omega, by omega⟩, ⟨by omega, by omega⟩, ⟨by omega, by omega⟩, trivial⟩ trivial (yT_k (yV_c (c := 0) (by decide) (by decide) (by omega)) (yT_k (yV_c (c := 1000) (by decide) (by decide) (by omega)) (yT_k (yV_v (j := 2) rfl) (yT_k (yV_c (c := 0) (by decide) (by decide) (by omega)) trivial))))
                      · skip
                        exact zBox_I (n := 1000000) (as := [.inl 0, .inl 1000, .inr (.inr (.inr (.inl [(1, [2])]))), .inl 1]) (bs := [(0, 0), (1000, 1000), (-1000, 999), (1, 1)]) (T := []) (l := [(a 1).toInt, (a 2).toInt, (a 3).toInt, (a 4).toInt]) (by decide) (by decide) (by decide +kernel) ⟨⟨by omega, by omega⟩, ⟨by omega, by omega⟩, ⟨by omega, by omega⟩, ⟨by omega, by omega⟩, trivial⟩ trivial (yT_k (yV_c (c := 0) (by decide) (by decide) (by omega)) (yT_k (yV_c (c := 1000) (by decide) (by decide) (by omega)) (yT_k (yV_v (j := 2) rfl) (yT_k (yV_c (c := 1) (by decide) (by decide) (by omega)) trivial))))
                    · skip
                      rcases izc (a 4).toInt (1) with h11 | h11
                      · skip
                        exact zBox_I (n := 1000000) (as := [.inl 1, .inl 1000, .inr (.inr (.inr (.inl [(1, [2])]))), .inl 0]) (bs := [(1, 1), (1000, 1000), (-1000, 999), (0, 0)]) (T := []) (l := [(a 1).toInt, (a 2).toInt, (a 3).toInt, (a 4).toInt]) (by decide) (by decide) (by decide +kernel) ⟨⟨by omega, by omega⟩, ⟨by omega, by omega⟩, ⟨by omega, by omega⟩, ⟨by omega, by omega⟩, trivial⟩ trivial (yT_k (yV_c (c := 1) (by decide) (by decide) (by omega)) (yT_k (yV_c (c := 1000) (by decide) (by decide) (by omega)) (yT_k (yV_v (j := 2) rfl) (yT_k (yV_c (c := 0) (by decide) (by decide) (by omega)) trivial))))
                      · skip
                        exact zBox_I (n := 1000000) (as := [.inl 1, .inl 1000, .inr (.inr (.inr (.inl [(1, [2])]))), .inl 1]) (bs := [(1, 1), (1000, 1000), (-1000, 999), (1, 1)]) (T := []) (l := [(a 1).toInt, (a 2).toInt, (a 3).toInt, (a 4).toInt]) (by decide) (by decide) (by decide +kernel) ⟨⟨by omega, by omega⟩, ⟨by omega, by omega⟩, ⟨by omega, by omega⟩, ⟨by omega, by omega⟩, trivial⟩ trivial (yT_k (yV_c (c := 1) (by decide) (by decide) (by omega)) (yT_k (yV_c (c := 1000) (by decide) (by decide) (by omega)) (yT_k (yV_v (j := 2) rfl) (yT_k (yV_c (c := 1) (by decide) (by decide) (by omega)) trivial))))
                  · skip
                    rcases izc (a 4).toInt (3) with h10 | h10
                    · skip
                      rcases izc (a 1).toInt (1) with h11 | h11
                      · skip
                        exact zBox_I (n := 1000000) (as := [.inl 0, .inl 1000, .inr (.inr (.inr (.inl [(1, [2])]))), .inl 2]) (bs := [(0, 0), (1000, 1000), (-1000, 999), (2, 2)]) (T := []) (l := [(a 1).toInt, (a 2).toInt, (a 3).toInt, (a 4).toInt]) (by decide) (by decide) (by decide +kernel) ⟨⟨by omega, by omega⟩, ⟨by omega, by omega⟩, ⟨by omega, by omega⟩, ⟨by omega, by omega⟩, trivial⟩ trivial (yT_k (yV_c (c := 0) (by decide) (by decide) (by omega)) (yT_k (yV_c (c := 1000) (by decide) (by decide) (by omega)) (yT_k (yV_v (j := 2) rfl) (yT_k (yV_c (c := 2) (by decide) (by decide) (by omega)) trivial))))
                      · skip
                        exact zBox_I (n := 1000000) (as := [.inl 1, .inl 1000, .inr (.inr (.inr (.inl [(1, [2])]))), .inl 2]) (bs := [(1, 1), (1000, 1000), (-1000, 999), (2, 2)]) (T := []) (l := [(a 1).toInt, (a 2).toInt, (a 3).toInt, (a 4).toInt]) (by decide) (by decide) (by decide +kernel) ⟨⟨by omega, by omega⟩, ⟨by omega, by omega⟩, ⟨by omega, by omega⟩, ⟨by omega, by omega⟩, trivial⟩ trivial (yT_k (yV_c (c := 1) (by decide) (by decide) (by omega)) (yT_k (yV_c (c := 1000) (by decide) (by decide) (by omega)) (yT_k (yV_v (j := 2) rfl) (yT_k (yV_c (c := 2) (by decide) (by decide) (by omega)) trivial))))
                    · skip
                      exact zBox_I (n := 1000000) (as := [.inr (.inr (.inr (.inl [(1, [0])]))), .inl 1000, .inr (.inr (.inr (.inl [(1, [2])]))), .inr (.inr (.inr (.inl [(1, [3])])))]) (bs := [(0, 1), (1000, 1000), (-1000, 999), (3, 2147483647)]) (T := []) (l := [(a 1).toInt, (a 2).toInt, (a 3).toInt, (a 4).toInt]) (by decide) (by decide) (by decide +kernel) ⟨⟨by omega, by omega⟩, ⟨by omega, by omega⟩, ⟨by omega, by omega⟩, ⟨by omega, by omega⟩, trivial⟩ trivial (yT_k (yV_v (j := 0) rfl) (yT_k (yV_c (c := 1000) (by decide) (by decide) (by omega)) (yT_k (yV_v (j := 2) rfl) (yT_k (yV_v (j := 3) rfl) trivial))))
              · skip
                rcases izc (a 3).toInt (1001) with h8 | h8
                · skip
                  rcases izc (a 4).toInt (0) with h9 | h9
                  · skip
                    exact zBox_I (n := 1000000) (as := [.inr (.inr (.inr (.inl [(1, [0])]))), .inl 1000, .inl 1000, .inr (.inr (.inr (.inl [(1, [3])])))]) (bs := [(0, 1), (1000, 1000), (1000, 1000), (-2147483648, -1)]) (T := []) (l := [(a 1).toInt, (a 2).toInt, (a 3).toInt, (a 4).toInt]) (by decide) (by decide) (by decide +kernel) ⟨⟨by omega, by omega⟩, ⟨by omega, by omega⟩, ⟨by omega, by omega⟩, ⟨by omega, by omega⟩, trivial⟩ trivial (yT_k (yV_v (j := 0) rfl) (yT_k (yV_c (c := 1000) (by decide) (by decide) (by omega)) (yT_k (yV_c (c := 1000) (by decide) (by decide) (by omega)) (yT_k (yV_v (j := 3) rfl) trivial))))
                  · skip
                    rcases izc (a 4).toInt (2) with h10 | h10
                    · skip
                      rcases izc (a 1).toInt (1) with h11 | h11
                      · skip
                        rcases izc (a 4).toInt (1) with h12 | h12
                        · skip
                          exact zBox_I (n := 1000000) (as := [.inl 0, .inl 1000, .inl 1000, .inl 0]) (bs := [(0, 0), (1000, 1000), (1000, 1000), (0, 0)]) (T := []) (l := [(a 1).toInt, (a 2).toInt, (a 3).toInt, (a 4).toInt]) (by decide) (by decide) (by decide +kernel) ⟨⟨by omega, by omega⟩, ⟨by omega, by omega⟩, ⟨by omega, by omega⟩, ⟨by omega, by omega⟩, trivial⟩ trivial (yT_k (yV_c (c := 0) (by decide) (by decide) (by omega)) (yT_k (yV_c (c := 1000) (by decide) (by decide) (by omega)) (yT_k (yV_c (c := 1000) (by decide) (by decide) (by omega)) (yT_k (yV_c (c := 0) (by decide) (by decide) (by omega)) trivial))))
                        · skip
                          exact zBox_I (n := 1000000) (as := [.inl 0, .inl 1000, .inl 1000, .inl 1]) (bs := [(0, 0), (1000, 1000), (1000, 1000), (1, 1)]) (T := []) (l := [(a 1).toInt, (a 2).toInt, (a 3).toInt, (a 4).toInt]) (by decide) (by decide) (by decide +kernel) ⟨⟨by omega, by omega⟩, ⟨by omega, by omega⟩, ⟨by omega, by omega⟩, ⟨by omega, by omega⟩, trivial⟩ trivial (yT_k (yV_c (c := 0) (by decide) (by decide) (by omega)) (yT_k (yV_c (c := 1000) (by decide) (by decide) (by omega)) (yT_k (yV_c (c := 1000) (by decide) (by decide) (by omega)) (yT_k (yV_c (c := 1) (by decide) (by decide) (by omega)) trivial))))
                      · skip
                        rcases izc (a 4).toInt (1) with h12 | h12
                        · skip
                          exact zBox_I (n := 1000000) (as := [.inl 1, .inl 1000, .inl 1000, .inl 0]) (bs := [(1, 1), (1000, 1000), (1000, 1000), (0, 0)]) (T := []) (l := [(a 1).toInt, (a 2).toInt, (a 3).toInt, (a 4).toInt]) (by decide) (by decide) (by decide +kernel) ⟨⟨by omega, by omega⟩, ⟨by omega, by omega⟩, ⟨by omega, by omega⟩, ⟨by omega, by omega⟩, trivial⟩ trivial (yT_k (yV_c (c := 1) (by decide) (by decide) (by omega)) (yT_k (yV_c (c := 1000) (by decide) (by decide) (by omega)) (yT_k (yV_c (c := 1000) (by decide) (by decide) (by omega)) (yT_k (yV_c (c := 0) (by decide) (by decide) (by omega)) trivial))))
                        · skip
                          exact zBox_I (n := 1000000) (as := [.inl 1, .inl 1000, .inl 1000, .inl 1]) (bs := [(1, 1), (1000, 1000), (1000, 1000), (1, 1)]) (T := []) (l := [(a 1).toInt, (a 2).toInt, (a 3).toInt, (a 4).toInt]) (by decide) (by decide) (by decide +kernel) ⟨⟨by omega, by omega⟩, ⟨by omega, by omega⟩, ⟨by omega, by omega⟩, ⟨by omega, by omega⟩, trivial⟩ trivial (yT_k (yV_c (c := 1) (by decide) (by decide) (by omega)) (yT_k (yV_c (c := 1000) (by decide) (by decide) (by omega)) (yT_k (yV_c (c := 1000) (by decide) (by decide) (by omega)) (yT_k (yV_c (c := 1) (by decide) (by decide) (by omega)) trivial))))
                    · skip
                      rcases izc (a 4).toInt (3) with h11 | h11
                      · skip
                        rcases izc (a 1).toInt (1) with h12 | h12
                        · skip
                          exact zBox_I (n := 1000000) (as := [.inl 0, .inl 1000, .inl 1000, .inl 2]) (bs := [(0, 0), (1000, 1000), (1000, 1000), (2, 2)]) (T := []) (l := [(a 1).toInt, (a 2).toInt, (a 3).toInt, (a 4).toInt]) (by decide) (by decide) (by decide +kernel) ⟨⟨by omega, by omega⟩, ⟨by omega, by omega⟩, ⟨by omega, by omega⟩, ⟨by omega, by omega⟩, trivial⟩ trivial (yT_k (yV_c (c := 0) (by decide) (by decide) (by omega)) (yT_k (yV_c (c := 1000) (by decide) (by decide) (by omega)) (yT_k (yV_c (c := 1000) (by decide) (by decide) (by omega)) (yT_k (yV_c (c := 2) (by decide) (by decide) (by omega)) trivial))))
                        · skip
                          exact zBox_I (n := 1000000) (as := [.inl 1, .inl 1000, .inl 1000, .inl 2]) (bs := [(1, 1), (1000, 1000), (1000, 1000), (2, 2)]) (T := []) (l := [(a 1).toInt, (a 2).toInt, (a 3).toInt, (a 4).toInt]) (by decide) (by decide) (by decide +kernel) ⟨⟨by omega, by omega⟩, ⟨by omega, by omega⟩, ⟨by omega, by omega⟩, ⟨by omega, by omega⟩, trivial⟩ trivial (yT_k (yV_c (c := 1) (by decide) (by decide) (by omega)) (yT_k (yV_c (c := 1000) (by decide) (by decide) (by omega)) (yT_k (yV_c (c := 1000) (by decide) (by decide) (by omega)) (yT_k (yV_c (c := 2) (by decide) (by decide) (by omega)) trivial))))
                      · skip
                        exact zBox_I (n := 1000000) (as := [.inr (.inr (.inr (.inl [(1, [0])]))), .inl 1000, .inl 1000, .inr (.inr (.inr (.inl [(1, [3])])))]) (bs := [(0, 1), (1000, 1000), (1000, 1000), (3, 2147483647)]) (T := []) (l := [(a 1).toInt, (a 2).toInt, (a 3).toInt, (a 4).toInt]) (by decide) (by decide) (by decide +kernel) ⟨⟨by omega, by omega⟩, ⟨by omega, by omega⟩, ⟨by omega, by omega⟩, ⟨by omega, by omega⟩, trivial⟩ trivial (yT_k (yV_v (j := 0) rfl) (yT_k (yV_c (c := 1000) (by decide) (by decide) (by omega)) (yT_k (yV_c (c := 1000) (by decide) (by decide) (by omega)) (yT_k (yV_v (j := 3) rfl) trivial))))
                · skip
                  exact zBox_I (n := 1000000) (as := [.inr (.inr (.inr (.inl [(1, [0])]))), .inl 1000, .inr (.inr (.inr (.inl [(1, [2])]))), .inr (.inr (.inr (.inl [(1, [3])])))]) (bs := [(0, 1), (1000, 1000), (1001, 2147483647), (-2147483648, 2147483647)]) (T := []) (l := [(a 1).toInt, (a 2).toInt, (a 3).toInt, (a 4).toInt]) (by decide) (by decide) (by decide +kernel) ⟨⟨by omega, by omega⟩, ⟨by omega, by omega⟩, ⟨by omega, by omega⟩, ⟨by omega, by omega⟩, trivial⟩ trivial (yT_k (yV_v (j := 0) rfl) (yT_k (yV_c (c := 1000) (by decide) (by decide) (by omega)) (yT_k (yV_v (j := 2) rfl) (yT_k (yV_v (j := 3) rfl) trivial))))
          · skip
            exact zBox_I (n := 1000000) (as := [.inr (.inr (.inr (.inl [(1, [0])]))), .inr (.inr (.inr (.inl [(1, [1])]))), .inr (.inr (.inr (.inl [(1, [2])]))), .inr (.inr (.inr (.inl [(1, [3])])))]) (bs := [(0, 1), (1001, 2147483647), (-2147483648, 2147483647), (-2147483648, 2147483647)]) (T := []) (l := [(a 1).toInt, (a 2).toInt, (a 3).toInt, (a 4).toInt]) (by decide) (by decide) (by decide +kernel) ⟨⟨by omega, by omega⟩, ⟨by omega, by omega⟩, ⟨by omega, by omega⟩, ⟨by omega, by omega⟩, trivial⟩ trivial (yT_k (yV_v (j := 0) rfl) (yT_k (yV_v (j := 1) rfl) (yT_k (yV_v (j := 2) rfl) (yT_k (yV_v (j := 3) rfl) trivial))))
    · skip
      exact zBox_I (n := 1000000) (as := [.inr (.inr (.inr (.inl [(1, [0])]))), .inr (.inr (.inr (.inl [(1, [1])]))), .inr (.inr (.inr (.inl [(1, [2])]))), .inr (.inr (.inr (.inl [(1, [3])])))]) (bs := [(2, 2147483647), (-2147483648, 2147483647), (-2147483648, 2147483647), (-2147483648, 2147483647)]) (T := []) (l := [(a 1).toInt, (a 2).toInt, (a 3).toInt, (a 4).toInt]) (by decide) (by decide) (by decide +kernel) ⟨⟨by omega, by omega⟩, ⟨by omega, by omega⟩, ⟨by omega, by omega⟩, ⟨by omega, by omega⟩, trivial⟩ trivial (yT_k (yV_v (j := 0) rfl) (yT_k (yV_v (j := 1) rfl) (yT_k (yV_v (j := 2) rfl) (yT_k (yV_v (j := 3) rfl) trivial))))
set_option maxRecDepth 1000000 in
theorem k_9_1 : (zCall zVe 1000000 126 226 [.inr (.inr (.inr (.inl [(1, [0])]))), .inr (.inr (.inr (.inl [(1, [1])])))] (([(-1000, 999), (-1000, 999)], []), 72, zT0)).isSome = true := by decide +kernel
set_option maxRecDepth 1000000 in
theorem k_9_2 : (zCall zVe 1000000 126 226 [.inr (.inr (.inr (.inl [(1, [0])]))), .inl 1000] (([(-1000, 999), (1000, 1000)], []), 72, zT0)).isSome = true := by decide +kernel
set_option maxRecDepth 1000000 in
theorem k_9_3 : (zCall zVe 1000000 126 226 [.inl 1000, .inr (.inr (.inr (.inl [(1, [1])])))] (([(1000, 1000), (-1000, 999)], []), 72, zT0)).isSome = true := by decide +kernel
set_option maxRecDepth 1000000 in
theorem k_9_4 : (zCall zVe 1000000 126 226 [.inl 1000, .inl 1000] (([(1000, 1000), (1000, 1000)], []), 72, zT0)).isSome = true := by decide +kernel
-- hole
set_option maxRecDepth 1000000 in
set_option maxHeartbeats 8000000 in
theorem o_9 (a : Nat → Int32) : lOweK 57 w0e 9 a := by
  show lOweI 57 w0e 126 226 [.int (a 1), .int (a 2)]
  have hl0 := Int32.le_toInt (a 1)
  have hg0 := Int32.toInt_lt (a 1)
  have hl1 := Int32.le_toInt (a 2)
  have hg1 := Int32.toInt_lt (a 2)
  rcases izc (a 1).toInt (-1000) with h1 | h1
  · skip
    exact zBox_I (n := 1000000) (as := [.inr (.inr (.inr (.inl [(1, [0])]))), .inr (.inr (.inr (.inl [(1, [1])])))]) (bs := [(-2147483648, -1001), (-2147483648, 2147483647)]) (T := []) (l := [(a 1).toInt, (a 2).toInt]) (by decide) (by decide) (by decide +kernel) ⟨⟨by omega, by omega⟩, ⟨by omega, by omega⟩, trivial⟩ trivial (yT_k (yV_v (j := 0) rfl) (yT_k (yV_v (j := 1) rfl) trivial))
  · skip
    rcases izc (a 1).toInt (1000) with h2 | h2
    · skip
      rcases izc (a 2).toInt (-1000) with h3 | h3
      · skip
        exact zBox_I (n := 1000000) (as := [.inr (.inr (.inr (.inl [(1, [0])]))), .inr (.inr (.inr (.inl [(1, [1])])))]) (bs := [(-1000, 999), (-2147483648, -1001)]) (T := []) (l := [(a 1).toInt, (a 2).toInt]) (by decide) (by decide) (by decide +kernel) ⟨⟨by omega, by omega⟩, ⟨by omega, by omega⟩, trivial⟩ trivial (yT_k (yV_v (j := 0) rfl) (yT_k (yV_v (j := 1) rfl) trivial))
      · skip
        rcases izc (a 2).toInt (1000) with h4 | h4
        · skip
          exact zBox_I (n := 1000000) (as := [.inr (.inr (.inr (.inl [(1, [0])]))), .inr (.inr (.inr (.inl [(1, [1])])))]) (bs := [(-1000, 999), (-1000, 999)]) (T := []) (l := [(a 1).toInt, (a 2).toInt]) (by decide) (by decide) k_9_1 ⟨⟨by omega, by omega⟩, ⟨by omega, by omega⟩, trivial⟩ trivial (yT_k (yV_v (j := 0) rfl) (yT_k (yV_v (j := 1) rfl) trivial))
        · skip
          rcases izc (a 2).toInt (1001) with h5 | h5
          · skip
            exact zBox_I (n := 1000000) (as := [.inr (.inr (.inr (.inl [(1, [0])]))), .inl 1000]) (bs := [(-1000, 999), (1000, 1000)]) (T := []) (l := [(a 1).toInt, (a 2).toInt]) (by decide) (by decide) k_9_2 ⟨⟨by omega, by omega⟩, ⟨by omega, by omega⟩, trivial⟩ trivial (yT_k (yV_v (j := 0) rfl) (yT_k (yV_c (c := 1000) (by decide) (by decide) (by omega)) trivial))
          · skip
            exact zBox_I (n := 1000000) (as := [.inr (.inr (.inr (.inl [(1, [0])]))), .inr (.inr (.inr (.inl [(1, [1])])))]) (bs := [(-1000, 999), (1001, 2147483647)]) (T := []) (l := [(a 1).toInt, (a 2).toInt]) (by decide) (by decide) (by decide +kernel) ⟨⟨by omega, by omega⟩, ⟨by omega, by omega⟩, trivial⟩ trivial (yT_k (yV_v (j := 0) rfl) (yT_k (yV_v (j := 1) rfl) trivial))
    · skip
      rcases izc (a 1).toInt (1001) with h3 | h3
      · skip
        rcases izc (a 2).toInt (-1000) with h4 | h4
        · skip
          exact zBox_I (n := 1000000) (as := [.inl 1000, .inr (.inr (.inr (.inl [(1, [1])])))]) (bs := [(1000, 1000), (-2147483648, -1001)]) (T := []) (l := [(a 1).toInt, (a 2).toInt]) (by decide) (by decide) (by decide +kernel) ⟨⟨by omega, by omega⟩, ⟨by omega, by omega⟩, trivial⟩ trivial (yT_k (yV_c (c := 1000) (by decide) (by decide) (by omega)) (yT_k (yV_v (j := 1) rfl) trivial))
        · skip
          rcases izc (a 2).toInt (1000) with h5 | h5
          · skip
            exact zBox_I (n := 1000000) (as := [.inl 1000, .inr (.inr (.inr (.inl [(1, [1])])))]) (bs := [(1000, 1000), (-1000, 999)]) (T := []) (l := [(a 1).toInt, (a 2).toInt]) (by decide) (by decide) k_9_3 ⟨⟨by omega, by omega⟩, ⟨by omega, by omega⟩, trivial⟩ trivial (yT_k (yV_c (c := 1000) (by decide) (by decide) (by omega)) (yT_k (yV_v (j := 1) rfl) trivial))
          · skip
            rcases izc (a 2).toInt (1001) with h6 | h6
            · skip
              exact zBox_I (n := 1000000) (as := [.inl 1000, .inl 1000]) (bs := [(1000, 1000), (1000, 1000)]) (T := []) (l := [(a 1).toInt, (a 2).toInt]) (by decide) (by decide) k_9_4 ⟨⟨by omega, by omega⟩, ⟨by omega, by omega⟩, trivial⟩ trivial (yT_k (yV_c (c := 1000) (by decide) (by decide) (by omega)) (yT_k (yV_c (c := 1000) (by decide) (by decide) (by omega)) trivial))
            · skip
              exact zBox_I (n := 1000000) (as := [.inl 1000, .inr (.inr (.inr (.inl [(1, [1])])))]) (bs := [(1000, 1000), (1001, 2147483647)]) (T := []) (l := [(a 1).toInt, (a 2).toInt]) (by decide) (by decide) (by decide +kernel) ⟨⟨by omega, by omega⟩, ⟨by omega, by omega⟩, trivial⟩ trivial (yT_k (yV_c (c := 1000) (by decide) (by decide) (by omega)) (yT_k (yV_v (j := 1) rfl) trivial))
      · skip
        exact zBox_I (n := 1000000) (as := [.inr (.inr (.inr (.inl [(1, [0])]))), .inr (.inr (.inr (.inl [(1, [1])])))]) (bs := [(1001, 2147483647), (-2147483648, 2147483647)]) (T := []) (l := [(a 1).toInt, (a 2).toInt]) (by decide) (by decide) (by decide +kernel) ⟨⟨by omega, by omega⟩, ⟨by omega, by omega⟩, trivial⟩ trivial (yT_k (yV_v (j := 0) rfl) (yT_k (yV_v (j := 1) rfl) trivial))
