/-! CALLS WITH PLACES, RUN THROUGH BY THE KERNEL. By program (wip/tools/mk60.py). -/
set_option maxRecDepth 1000000 in
theorem k_0_1 : (zCall zVe 1000000 115 232 [.inl 4294966296, .inr (.inr (.inr (.inl [(1, [1])])))] (([(-1000, -1000), (-999, 999)], []), 72, zT0)).isSome = true := by decide +kernel
set_option maxRecDepth 1000000 in
theorem k_0_2 : (zCall zVe 1000000 115 232 [.inr (.inr (.inr (.inl [(1, [0])]))), .inl 4294966296] (([(-999, 999), (-1000, -1000)], []), 72, zT0)).isSome = true := by decide +kernel
set_option maxRecDepth 1000000 in
theorem k_0_3 : (zCall zVe 1000000 115 232 [.inr (.inr (.inr (.inl [(1, [0])]))), .inr (.inr (.inr (.inl [(1, [1])])))] (([(-999, 999), (-999, 999)], [([(2000, [0]), (-2000, [1])], (false, false, true)), ([(-2000, [0]), (2000, [1])], (true, false, false)), ([(-2000, [0]), (-2000, [1])], (false, false, true)), ([(2000, [0]), (2000, [1])], (true, false, false))]), 72, zT0)).isSome = true := by decide +kernel
set_option maxRecDepth 1000000 in
theorem k_0_4 : (zCall zVe 1000000 115 232 [.inr (.inr (.inr (.inl [(1, [0])]))), .inr (.inr (.inr (.inl [(1, [1])])))] (([(-999, 999), (-999, 999)], [([(2000, [0]), (-2000, [1])], (false, false, true)), ([(-2000, [0]), (2000, [1])], (true, false, false)), ([(-2000, [0]), (-2000, [1])], (false, true, false)), ([(2000, [0]), (2000, [1])], (false, true, false))]), 72, zT0)).isSome = true := by decide +kernel
set_option maxRecDepth 1000000 in
theorem k_0_5 : (zCall zVe 1000000 115 232 [.inr (.inr (.inr (.inl [(1, [0])]))), .inr (.inr (.inr (.inl [(1, [1])])))] (([(-999, 999), (-999, 999)], [([(2000, [0]), (-2000, [1])], (false, false, true)), ([(-2000, [0]), (2000, [1])], (true, false, false)), ([(-2000, [0]), (-2000, [1])], (true, false, false)), ([(2000, [0]), (2000, [1])], (false, false, true))]), 72, zT0)).isSome = true := by decide +kernel
set_option maxRecDepth 1000000 in
theorem k_0_6 : (zCall zVe 1000000 115 232 [.inr (.inr (.inr (.inl [(1, [0])]))), .inr (.inr (.inr (.inl [(1, [1])])))] (([(-999, 999), (-999, 999)], [([(2000, [0]), (-2000, [1])], (false, true, false)), ([(-2000, [0]), (2000, [1])], (false, true, false)), ([(-2000, [0]), (-2000, [1])], (false, false, true)), ([(2000, [0]), (2000, [1])], (true, false, false))]), 72, zT0)).isSome = true := by decide +kernel
set_option maxRecDepth 1000000 in
theorem k_0_7 : (zCall zVe 1000000 115 232 [.inr (.inr (.inr (.inl [(1, [0])]))), .inr (.inr (.inr (.inl [(1, [1])])))] (([(-999, 999), (-999, 999)], [([(2000, [0]), (-2000, [1])], (false, true, false)), ([(-2000, [0]), (2000, [1])], (false, true, false)), ([(-2000, [0]), (-2000, [1])], (false, true, false)), ([(2000, [0]), (2000, [1])], (false, true, false))]), 72, zT0)).isSome = true := by decide +kernel
set_option maxRecDepth 1000000 in
theorem k_0_8 : (zCall zVe 1000000 115 232 [.inr (.inr (.inr (.inl [(1, [0])]))), .inr (.inr (.inr (.inl [(1, [1])])))] (([(-999, 999), (-999, 999)], [([(2000, [0]), (-2000, [1])], (false, true, false)), ([(-2000, [0]), (2000, [1])], (false, true, false)), ([(-2000, [0]), (-2000, [1])], (true, false, false)), ([(2000, [0]), (2000, [1])], (false, false, true))]), 72, zT0)).isSome = true := by decide +kernel
set_option maxRecDepth 1000000 in
theorem k_0_9 : (zCall zVe 1000000 115 232 [.inr (.inr (.inr (.inl [(1, [0])]))), .inr (.inr (.inr (.inl [(1, [1])])))] (([(-999, 999), (-999, 999)], [([(2000, [0]), (-2000, [1])], (true, false, false)), ([(-2000, [0]), (2000, [1])], (false, false, true)), ([(-2000, [0]), (-2000, [1])], (false, false, true)), ([(2000, [0]), (2000, [1])], (true, false, false))]), 72, zT0)).isSome = true := by decide +kernel
set_option maxRecDepth 1000000 in
theorem k_0_10 : (zCall zVe 1000000 115 232 [.inr (.inr (.inr (.inl [(1, [0])]))), .inr (.inr (.inr (.inl [(1, [1])])))] (([(-999, 999), (-999, 999)], [([(2000, [0]), (-2000, [1])], (true, false, false)), ([(-2000, [0]), (2000, [1])], (false, false, true)), ([(-2000, [0]), (-2000, [1])], (false, true, false)), ([(2000, [0]), (2000, [1])], (false, true, false))]), 72, zT0)).isSome = true := by decide +kernel
set_option maxRecDepth 1000000 in
theorem k_0_11 : (zCall zVe 1000000 115 232 [.inr (.inr (.inr (.inl [(1, [0])]))), .inr (.inr (.inr (.inl [(1, [1])])))] (([(-999, 999), (-999, 999)], [([(2000, [0]), (-2000, [1])], (true, false, false)), ([(-2000, [0]), (2000, [1])], (false, false, true)), ([(-2000, [0]), (-2000, [1])], (true, false, false)), ([(2000, [0]), (2000, [1])], (false, false, true))]), 72, zT0)).isSome = true := by decide +kernel
set_option maxRecDepth 1000000 in
theorem k_0_12 : (zCall zVe 1000000 115 232 [.inr (.inr (.inr (.inl [(1, [0])]))), .inl 1000] (([(-999, 999), (1000, 1000)], []), 72, zT0)).isSome = true := by decide +kernel
set_option maxRecDepth 1000000 in
theorem k_0_13 : (zCall zVe 1000000 115 232 [.inl 1000, .inr (.inr (.inr (.inl [(1, [1])])))] (([(1000, 1000), (-999, 999)], []), 72, zT0)).isSome = true := by decide +kernel
-- point
set_option maxRecDepth 1000000 in
set_option maxHeartbeats 8000000 in
theorem o_0 (a : Nat → Int32) : lOweK 57 w0e 0 a := by
  show lOweI 57 w0e 115 232 [.int (a 1), .int (a 2)]
  have hl0 := Int32.le_toInt (a 1)
  have hg0 := Int32.toInt_lt (a 1)
  have hl1 := Int32.le_toInt (a 2)
  have hg1 := Int32.toInt_lt (a 2)
  rcases izc (a 1).toInt (-1000) with h1 | h1
  · skip
    exact zBox_I (n := 1000000) (as := [.inr (.inr (.inr (.inl [(1, [0])]))), .inr (.inr (.inr (.inl [(1, [1])])))]) (bs := [(-2147483648, -1001), (-2147483648, 2147483647)]) (T := []) (l := [(a 1).toInt, (a 2).toInt]) (by decide) (by decide) (by decide +kernel) ⟨⟨by omega, by omega⟩, ⟨by omega, by omega⟩, trivial⟩ trivial (yT_k (yV_v (j := 0) rfl) (yT_k (yV_v (j := 1) rfl) trivial))
  · skip
    rcases izc (a 1).toInt (1000) with h2 | h2
    · skip
      rcases izc (a 2).toInt (-1000) with h3 | h3
      · skip
        exact zBox_I (n := 1000000) (as := [.inr (.inr (.inr (.inl [(1, [0])]))), .inr (.inr (.inr (.inl [(1, [1])])))]) (bs := [(-1000, 999), (-2147483648, -1001)]) (T := []) (l := [(a 1).toInt, (a 2).toInt]) (by decide) (by decide) (by decide +kernel) ⟨⟨by omega, by omega⟩, ⟨by omega, by omega⟩, trivial⟩ trivial (yT_k (yV_v (j := 0) rfl) (yT_k (yV_v (j := 1) rfl) trivial))
      · skip
        rcases izc (a 2).toInt (1000) with h4 | h4
        · skip
          rcases izc (a 1).toInt (-999) with h5 | h5
          · skip
            rcases izc (a 2).toInt (-999) with h6 | h6
            · skip
              exact zBox_I (n := 1000000) (as := [.inl 4294966296, .inl 4294966296]) (bs := [(-1000, -1000), (-1000, -1000)]) (T := []) (l := [(a 1).toInt, (a 2).toInt]) (by decide) (by decide) (by decide +kernel) ⟨⟨by omega, by omega⟩, ⟨by omega, by omega⟩, trivial⟩ trivial (yT_k (yV_c (c := -1000) (by decide) (by decide) (by omega)) (yT_k (yV_c (c := -1000) (by decide) (by decide) (by omega)) trivial))
            · skip
              exact zBox_I (n := 1000000) (as := [.inl 4294966296, .inr (.inr (.inr (.inl [(1, [1])])))]) (bs := [(-1000, -1000), (-999, 999)]) (T := []) (l := [(a 1).toInt, (a 2).toInt]) (by decide) (by decide) k_0_1 ⟨⟨by omega, by omega⟩, ⟨by omega, by omega⟩, trivial⟩ trivial (yT_k (yV_c (c := -1000) (by decide) (by decide) (by omega)) (yT_k (yV_v (j := 1) rfl) trivial))
          · skip
            rcases Int.lt_trichotomy (-1 * ((a 1).toInt) + 1 * ((a 2).toInt)) 0 with h6 | h6 | h6
            · skip
              rcases izc (a 2).toInt (-999) with h7 | h7
              · skip
                exact zBox_I (n := 1000000) (as := [.inr (.inr (.inr (.inl [(1, [0])]))), .inl 4294966296]) (bs := [(-999, 999), (-1000, -1000)]) (T := []) (l := [(a 1).toInt, (a 2).toInt]) (by decide) (by decide) k_0_2 ⟨⟨by omega, by omega⟩, ⟨by omega, by omega⟩, trivial⟩ trivial (yT_k (yV_v (j := 0) rfl) (yT_k (yV_c (c := -1000) (by decide) (by decide) (by omega)) trivial))
              · skip
                rcases Int.lt_trichotomy (1 * ((a 1).toInt) + 1 * ((a 2).toInt)) 0 with h8 | h8 | h8
                · skip
                  exact zBox_I (n := 1000000) (as := [.inr (.inr (.inr (.inl [(1, [0])]))), .inr (.inr (.inr (.inl [(1, [1])])))]) (bs := [(-999, 999), (-999, 999)]) (T := [([(2000, [0]), (-2000, [1])], (false, false, true)), ([(-2000, [0]), (2000, [1])], (true, false, false)), ([(-2000, [0]), (-2000, [1])], (false, false, true)), ([(2000, [0]), (2000, [1])], (true, false, false))]) (l := [(a 1).toInt, (a 2).toInt]) (by decide) (by decide) k_0_3 ⟨⟨by omega, by omega⟩, ⟨by omega, by omega⟩, trivial⟩ ⟨sg_p (by show 0 < ((2000 : Int) * ((a 1).toInt * 1) + ((-2000 : Int) * ((a 2).toInt * 1) + 0)); (try simp only [Int.mul_one]); omega), sg_n (by show ((-2000 : Int) * ((a 1).toInt * 1) + ((2000 : Int) * ((a 2).toInt * 1) + 0)) < 0; (try simp only [Int.mul_one]); omega), sg_p (by show 0 < ((-2000 : Int) * ((a 1).toInt * 1) + ((-2000 : Int) * ((a 2).toInt * 1) + 0)); (try simp only [Int.mul_one]); omega), sg_n (by show ((2000 : Int) * ((a 1).toInt * 1) + ((2000 : Int) * ((a 2).toInt * 1) + 0)) < 0; (try simp only [Int.mul_one]); omega), trivial⟩ (yT_k (yV_v (j := 0) rfl) (yT_k (yV_v (j := 1) rfl) trivial))
                · skip
                  exact zBox_I (n := 1000000) (as := [.inr (.inr (.inr (.inl [(1, [0])]))), .inr (.inr (.inr (.inl [(1, [1])])))]) (bs := [(-999, 999), (-999, 999)]) (T := [([(2000, [0]), (-2000, [1])], (false, false, true)), ([(-2000, [0]), (2000, [1])], (true, false, false)), ([(-2000, [0]), (-2000, [1])], (false, true, false)), ([(2000, [0]), (2000, [1])], (false, true, false))]) (l := [(a 1).toInt, (a 2).toInt]) (by decide) (by decide) k_0_4 ⟨⟨by omega, by omega⟩, ⟨by omega, by omega⟩, trivial⟩ ⟨sg_p (by show 0 < ((2000 : Int) * ((a 1).toInt * 1) + ((-2000 : Int) * ((a 2).toInt * 1) + 0)); (try simp only [Int.mul_one]); omega), sg_n (by show ((-2000 : Int) * ((a 1).toInt * 1) + ((2000 : Int) * ((a 2).toInt * 1) + 0)) < 0; (try simp only [Int.mul_one]); omega), sg_z (by show ((-2000 : Int) * ((a 1).toInt * 1) + ((-2000 : Int) * ((a 2).toInt * 1) + 0)) = 0; (try simp only [Int.mul_one]); omega), sg_z (by show ((2000 : Int) * ((a 1).toInt * 1) + ((2000 : Int) * ((a 2).toInt * 1) + 0)) = 0; (try simp only [Int.mul_one]); omega), trivial⟩ (yT_k (yV_v (j := 0) rfl) (yT_k (yV_v (j := 1) rfl) trivial))
                · skip
                  exact zBox_I (n := 1000000) (as := [.inr (.inr (.inr (.inl [(1, [0])]))), .inr (.inr (.inr (.inl [(1, [1])])))]) (bs := [(-999, 999), (-999, 999)]) (T := [([(2000, [0]), (-2000, [1])], (false, false, true)), ([(-2000, [0]), (2000, [1])], (true, false, false)), ([(-2000, [0]), (-2000, [1])], (true, false, false)), ([(2000, [0]), (2000, [1])], (false, false, true))]) (l := [(a 1).toInt, (a 2).toInt]) (by decide) (by decide) k_0_5 ⟨⟨by omega, by omega⟩, ⟨by omega, by omega⟩, trivial⟩ ⟨sg_p (by show 0 < ((2000 : Int) * ((a 1).toInt * 1) + ((-2000 : Int) * ((a 2).toInt * 1) + 0)); (try simp only [Int.mul_one]); omega), sg_n (by show ((-2000 : Int) * ((a 1).toInt * 1) + ((2000 : Int) * ((a 2).toInt * 1) + 0)) < 0; (try simp only [Int.mul_one]); omega), sg_n (by show ((-2000 : Int) * ((a 1).toInt * 1) + ((-2000 : Int) * ((a 2).toInt * 1) + 0)) < 0; (try simp only [Int.mul_one]); omega), sg_p (by show 0 < ((2000 : Int) * ((a 1).toInt * 1) + ((2000 : Int) * ((a 2).toInt * 1) + 0)); (try simp only [Int.mul_one]); omega), trivial⟩ (yT_k (yV_v (j := 0) rfl) (yT_k (yV_v (j := 1) rfl) trivial))
            · skip
              rcases izc (a 2).toInt (-999) with h7 | h7
              · skip
                exfalso
                omega
              · skip
                rcases Int.lt_trichotomy (1 * ((a 1).toInt) + 1 * ((a 2).toInt)) 0 with h8 | h8 | h8
                · skip
                  exact zBox_I (n := 1000000) (as := [.inr (.inr (.inr (.inl [(1, [0])]))), .inr (.inr (.inr (.inl [(1, [1])])))]) (bs := [(-999, 999), (-999, 999)]) (T := [([(2000, [0]), (-2000, [1])], (false, true, false)), ([(-2000, [0]), (2000, [1])], (false, true, false)), ([(-2000, [0]), (-2000, [1])], (false, false, true)), ([(2000, [0]), (2000, [1])], (true, false, false))]) (l := [(a 1).toInt, (a 2).toInt]) (by decide) (by decide) k_0_6 ⟨⟨by omega, by omega⟩, ⟨by omega, by omega⟩, trivial⟩ ⟨sg_z (by show ((2000 : Int) * ((a 1).toInt * 1) + ((-2000 : Int) * ((a 2).toInt * 1) + 0)) = 0; (try simp only [Int.mul_one]); omega), sg_z (by show ((-2000 : Int) * ((a 1).toInt * 1) + ((2000 : Int) * ((a 2).toInt * 1) + 0)) = 0; (try simp only [Int.mul_one]); omega), sg_p (by show 0 < ((-2000 : Int) * ((a 1).toInt * 1) + ((-2000 : Int) * ((a 2).toInt * 1) + 0)); (try simp only [Int.mul_one]); omega), sg_n (by show ((2000 : Int) * ((a 1).toInt * 1) + ((2000 : Int) * ((a 2).toInt * 1) + 0)) < 0; (try simp only [Int.mul_one]); omega), trivial⟩ (yT_k (yV_v (j := 0) rfl) (yT_k (yV_v (j := 1) rfl) trivial))
                · skip
                  exact zBox_I (n := 1000000) (as := [.inr (.inr (.inr (.inl [(1, [0])]))), .inr (.inr (.inr (.inl [(1, [1])])))]) (bs := [(-999, 999), (-999, 999)]) (T := [([(2000, [0]), (-2000, [1])], (false, true, false)), ([(-2000, [0]), (2000, [1])], (false, true, false)), ([(-2000, [0]), (-2000, [1])], (false, true, false)), ([(2000, [0]), (2000, [1])], (false, true, false))]) (l := [(a 1).toInt, (a 2).toInt]) (by decide) (by decide) k_0_7 ⟨⟨by omega, by omega⟩, ⟨by omega, by omega⟩, trivial⟩ ⟨sg_z (by show ((2000 : Int) * ((a 1).toInt * 1) + ((-2000 : Int) * ((a 2).toInt * 1) + 0)) = 0; (try simp only [Int.mul_one]); omega), sg_z (by show ((-2000 : Int) * ((a 1).toInt * 1) + ((2000 : Int) * ((a 2).toInt * 1) + 0)) = 0; (try simp only [Int.mul_one]); omega), sg_z (by show ((-2000 : Int) * ((a 1).toInt * 1) + ((-2000 : Int) * ((a 2).toInt * 1) + 0)) = 0; (try simp only [Int.mul_one]); omega), sg_z (by show ((2000 : Int) * ((a 1).toInt * 1) + ((2000 : Int) * ((a 2).toInt * 1) + 0)) = 0; (try simp only [Int.mul_one]); omega), trivial⟩ (yT_k (yV_v (j := 0) rfl) (yT_k (yV_v (j := 1) rfl) trivial))
                · skip
                  exact zBox_I (n := 1000000) (as := [.inr (.inr (.inr (.inl [(1, [0])]))), .inr (.inr (.inr (.inl [(1, [1])])))]) (bs := [(-999, 999), (-999, 999)]) (T := [([(2000, [0]), (-2000, [1])], (false, true, false)), ([(-2000, [0]), (2000, [1])], (false, true, false)), ([(-2000, [0]), (-2000, [1])], (true, false, false)), ([(2000, [0]), (2000, [1])], (false, false, true))]) (l := [(a 1).toInt, (a 2).toInt]) (by decide) (by decide) k_0_8 ⟨⟨by omega, by omega⟩, ⟨by omega, by omega⟩, trivial⟩ ⟨sg_z (by show ((2000 : Int) * ((a 1).toInt * 1) + ((-2000 : Int) * ((a 2).toInt * 1) + 0)) = 0; (try simp only [Int.mul_one]); omega), sg_z (by show ((-2000 : Int) * ((a 1).toInt * 1) + ((2000 : Int) * ((a 2).toInt * 1) + 0)) = 0; (try simp only [Int.mul_one]); omega), sg_n (by show ((-2000 : Int) * ((a 1).toInt * 1) + ((-2000 : Int) * ((a 2).toInt * 1) + 0)) < 0; (try simp only [Int.mul_one]); omega), sg_p (by show 0 < ((2000 : Int) * ((a 1).toInt * 1) + ((2000 : Int) * ((a 2).toInt * 1) + 0)); (try simp only [Int.mul_one]); omega), trivial⟩ (yT_k (yV_v (j := 0) rfl) (yT_k (yV_v (j := 1) rfl) trivial))
            · skip
              rcases izc (a 2).toInt (-999) with h7 | h7
              · skip
                exfalso
                omega
              · skip
                rcases Int.lt_trichotomy (1 * ((a 1).toInt) + 1 * ((a 2).toInt)) 0 with h8 | h8 | h8
                · skip
                  exact zBox_I (n := 1000000) (as := [.inr (.inr (.inr (.inl [(1, [0])]))), .inr (.inr (.inr (.inl [(1, [1])])))]) (bs := [(-999, 999), (-999, 999)]) (T := [([(2000, [0]), (-2000, [1])], (true, false, false)), ([(-2000, [0]), (2000, [1])], (false, false, true)), ([(-2000, [0]), (-2000, [1])], (false, false, true)), ([(2000, [0]), (2000, [1])], (true, false, false))]) (l := [(a 1).toInt, (a 2).toInt]) (by decide) (by decide) k_0_9 ⟨⟨by omega, by omega⟩, ⟨by omega, by omega⟩, trivial⟩ ⟨sg_n (by show ((2000 : Int) * ((a 1).toInt * 1) + ((-2000 : Int) * ((a 2).toInt * 1) + 0)) < 0; (try simp only [Int.mul_one]); omega), sg_p (by show 0 < ((-2000 : Int) * ((a 1).toInt * 1) + ((2000 : Int) * ((a 2).toInt * 1) + 0)); (try simp only [Int.mul_one]); omega), sg_p (by show 0 < ((-2000 : Int) * ((a 1).toInt * 1) + ((-2000 : Int) * ((a 2).toInt * 1) + 0)); (try simp only [Int.mul_one]); omega), sg_n (by show ((2000 : Int) * ((a 1).toInt * 1) + ((2000 : Int) * ((a 2).toInt * 1) + 0)) < 0; (try simp only [Int.mul_one]); omega), trivial⟩ (yT_k (yV_v (j := 0) rfl) (yT_k (yV_v (j := 1) rfl) trivial))
                · skip
                  exact zBox_I (n := 1000000) (as := [.inr (.inr (.inr (.inl [(1, [0])]))), .inr (.inr (.inr (.inl [(1, [1])])))]) (bs := [(-999, 999), (-999, 999)]) (T := [([(2000, [0]), (-2000, [1])], (true, false, false)), ([(-2000, [0]), (2000, [1])], (false, false, true)), ([(-2000, [0]), (-2000, [1])], (false, true, false)), ([(2000, [0]), (2000, [1])], (false, true, false))]) (l := [(a 1).toInt, (a 2).toInt]) (by decide) (by decide) k_0_10 ⟨⟨by omega, by omega⟩, ⟨by omega, by omega⟩, trivial⟩ ⟨sg_n (by show ((2000 : Int) * ((a 1).toInt * 1) + ((-2000 : Int) * ((a 2).toInt * 1) + 0)) < 0; (try simp only [Int.mul_one]); omega), sg_p (by show 0 < ((-2000 : Int) * ((a 1).toInt * 1) + ((2000 : Int) * ((a 2).toInt * 1) + 0)); (try simp only [Int.mul_one]); omega), sg_z (by show ((-2000 : Int) * ((a 1).toInt * 1) + ((-2000 : Int) * ((a 2).toInt * 1) + 0)) = 0; (try simp only [Int.mul_one]); omega), sg_z (by show ((2000 : Int) * ((a 1).toInt * 1) + ((2000 : Int) * ((a 2).toInt * 1) + 0)) = 0; (try simp only [Int.mul_one]); omega), trivial⟩ (yT_k (yV_v (j := 0) rfl) (yT_k (yV_v (j := 1) rfl) trivial))
                · skip
                  exact zBox_I (n := 1000000) (as := [.inr (.inr (.inr (.inl [(1, [0])]))), .inr (.inr (.inr (.inl [(1, [1])])))]) (bs := [(-999, 999), (-999, 999)]) (T := [([(2000, [0]), (-2000, [1])], (true, false, false)), ([(-2000, [0]), (2000, [1])], (false, false, true)), ([(-2000, [0]), (-2000, [1])], (true, false, false)), ([(2000, [0]), (2000, [1])], (false, false, true))]) (l := [(a 1).toInt, (a 2).toInt]) (by decide) (by decide) k_0_11 ⟨⟨by omega, by omega⟩, ⟨by omega, by omega⟩, trivial⟩ ⟨sg_n (by show ((2000 : Int) * ((a 1).toInt * 1) + ((-2000 : Int) * ((a 2).toInt * 1) + 0)) < 0; (try simp only [Int.mul_one]); omega), sg_p (by show 0 < ((-2000 : Int) * ((a 1).toInt * 1) + ((2000 : Int) * ((a 2).toInt * 1) + 0)); (try simp only [Int.mul_one]); omega), sg_n (by show ((-2000 : Int) * ((a 1).toInt * 1) + ((-2000 : Int) * ((a 2).toInt * 1) + 0)) < 0; (try simp only [Int.mul_one]); omega), sg_p (by show 0 < ((2000 : Int) * ((a 1).toInt * 1) + ((2000 : Int) * ((a 2).toInt * 1) + 0)); (try simp only [Int.mul_one]); omega), trivial⟩ (yT_k (yV_v (j := 0) rfl) (yT_k (yV_v (j := 1) rfl) trivial))
        · skip
          rcases izc (a 2).toInt (1001) with h5 | h5
          · skip
            rcases izc (a 1).toInt (-999) with h6 | h6
            · skip
              exact zBox_I (n := 1000000) (as := [.inl 4294966296, .inl 1000]) (bs := [(-1000, -1000), (1000, 1000)]) (T := []) (l := [(a 1).toInt, (a 2).toInt]) (by decide) (by decide) (by decide +kernel) ⟨⟨by omega, by omega⟩, ⟨by omega, by omega⟩, trivial⟩ trivial (yT_k (yV_c (c := -1000) (by decide) (by decide) (by omega)) (yT_k (yV_c (c := 1000) (by decide) (by decide) (by omega)) trivial))
            · skip
              exact zBox_I (n := 1000000) (as := [.inr (.inr (.inr (.inl [(1, [0])]))), .inl 1000]) (bs := [(-999, 999), (1000, 1000)]) (T := []) (l := [(a 1).toInt, (a 2).toInt]) (by decide) (by decide) k_0_12 ⟨⟨by omega, by omega⟩, ⟨by omega, by omega⟩, trivial⟩ trivial (yT_k (yV_v (j := 0) rfl) (yT_k (yV_c (c := 1000) (by decide) (by decide) (by omega)) trivial))
          · skip
            exact zBox_I (n := 1000000) (as := [.inr (.inr (.inr (.inl [(1, [0])]))), .inr (.inr (.inr (.inl [(1, [1])])))]) (bs := [(-1000, 999), (1001, 2147483647)]) (T := []) (l := [(a 1).toInt, (a 2).toInt]) (by decide) (by decide) (by decide +kernel) ⟨⟨by omega, by omega⟩, ⟨by omega, by omega⟩, trivial⟩ trivial (yT_k (yV_v (j := 0) rfl) (yT_k (yV_v (j := 1) rfl) trivial))
    · skip
      rcases izc (a 1).toInt (1001) with h3 | h3
      · skip
        rcases izc (a 2).toInt (-1000) with h4 | h4
        · skip
          exact zBox_I (n := 1000000) (as := [.inl 1000, .inr (.inr (.inr (.inl [(1, [1])])))]) (bs := [(1000, 1000), (-2147483648, -1001)]) (T := []) (l := [(a 1).toInt, (a 2).toInt]) (by decide) (by decide) (by decide +kernel) ⟨⟨by omega, by omega⟩, ⟨by omega, by omega⟩, trivial⟩ trivial (yT_k (yV_c (c := 1000) (by decide) (by decide) (by omega)) (yT_k (yV_v (j := 1) rfl) trivial))
        · skip
          rcases izc (a 2).toInt (1000) with h5 | h5
          · skip
            rcases izc (a 2).toInt (-999) with h6 | h6
            · skip
              exact zBox_I (n := 1000000) (as := [.inl 1000, .inl 4294966296]) (bs := [(1000, 1000), (-1000, -1000)]) (T := []) (l := [(a 1).toInt, (a 2).toInt]) (by decide) (by decide) (by decide +kernel) ⟨⟨by omega, by omega⟩, ⟨by omega, by omega⟩, trivial⟩ trivial (yT_k (yV_c (c := 1000) (by decide) (by decide) (by omega)) (yT_k (yV_c (c := -1000) (by decide) (by decide) (by omega)) trivial))
            · skip
              exact zBox_I (n := 1000000) (as := [.inl 1000, .inr (.inr (.inr (.inl [(1, [1])])))]) (bs := [(1000, 1000), (-999, 999)]) (T := []) (l := [(a 1).toInt, (a 2).toInt]) (by decide) (by decide) k_0_13 ⟨⟨by omega, by omega⟩, ⟨by omega, by omega⟩, trivial⟩ trivial (yT_k (yV_c (c := 1000) (by decide) (by decide) (by omega)) (yT_k (yV_v (j := 1) rfl) trivial))
          · skip
            rcases izc (a 2).toInt (1001) with h6 | h6
            · skip
              exact zBox_I (n := 1000000) (as := [.inl 1000, .inl 1000]) (bs := [(1000, 1000), (1000, 1000)]) (T := []) (l := [(a 1).toInt, (a 2).toInt]) (by decide) (by decide) (by decide +kernel) ⟨⟨by omega, by omega⟩, ⟨by omega, by omega⟩, trivial⟩ trivial (yT_k (yV_c (c := 1000) (by decide) (by decide) (by omega)) (yT_k (yV_c (c := 1000) (by decide) (by decide) (by omega)) trivial))
            · skip
              exact zBox_I (n := 1000000) (as := [.inl 1000, .inr (.inr (.inr (.inl [(1, [1])])))]) (bs := [(1000, 1000), (1001, 2147483647)]) (T := []) (l := [(a 1).toInt, (a 2).toInt]) (by decide) (by decide) (by decide +kernel) ⟨⟨by omega, by omega⟩, ⟨by omega, by omega⟩, trivial⟩ trivial (yT_k (yV_c (c := 1000) (by decide) (by decide) (by omega)) (yT_k (yV_v (j := 1) rfl) trivial))
      · skip
        exact zBox_I (n := 1000000) (as := [.inr (.inr (.inr (.inl [(1, [0])]))), .inr (.inr (.inr (.inl [(1, [1])])))]) (bs := [(1001, 2147483647), (-2147483648, 2147483647)]) (T := []) (l := [(a 1).toInt, (a 2).toInt]) (by decide) (by decide) (by decide +kernel) ⟨⟨by omega, by omega⟩, ⟨by omega, by omega⟩, trivial⟩ trivial (yT_k (yV_v (j := 0) rfl) (yT_k (yV_v (j := 1) rfl) trivial))
