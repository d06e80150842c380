/-! CALLS RUN THROUGH BY THE KERNEL, their arguments in boxes. By program (wip/tools/mk50.py). -/
-- ring
set_option maxRecDepth 1000000 in
set_option maxHeartbeats 4000000 in
theorem o_26 (a : Nat → Int32) : lOweK 57 w0e 26 a := by
  show lOweL 57 w0e 148 284 [.int (a 1), .int (a 2)]
  have hl0 := Int32.le_toInt (a 1)
  have hg0 := Int32.toInt_lt (a 1)
  have hl1 := Int32.le_toInt (a 2)
  have hg1 := Int32.toInt_lt (a 2)
  rcases izc (a 1).toInt (0) with h1 | h1
  · skip
    exact zBox_L (n := 1000000) (as := [.inr (.inr (.inr (.inl [(1, [0])]))), .inr (.inr (.inr (.inl [(1, [1])])))]) (bs := [(-2147483648, -1), (-2147483648, 2147483647)]) (T := []) (l := [(a 1).toInt, (a 2).toInt]) (by decide) (by decide) (by decide +kernel) ⟨⟨by omega, by omega⟩, ⟨by omega, by omega⟩, trivial⟩ trivial (yT_k (yV_v (j := 0) rfl) (yT_k (yV_v (j := 1) rfl) trivial))
  · skip
    rcases izc (a 1).toInt (40) with h2 | h2
    · skip
      rcases izc (a 1).toInt (1) with h3 | h3
      · skip
        rcases izc (a 2).toInt (0) with h4 | h4
        · skip
          exact zBox_L (n := 1000000) (as := [.inl 0, .inr (.inr (.inr (.inl [(1, [0])])))]) (bs := [(-2147483648, -1)]) (T := []) (l := [(a 2).toInt]) (by decide) (by decide) (by decide +kernel) ⟨⟨by omega, by omega⟩, trivial⟩ trivial (yT_k (yV_c (c := 0) (by decide) (by decide) (by omega)) (yT_k (yV_v (j := 0) rfl) trivial))
        · skip
          rcases izc (a 2).toInt (1) with h5 | h5
          · skip
            exact zBox_L (n := 1000000) (as := [.inl 0, .inl 0]) (bs := []) (T := []) (l := []) (by decide) (by decide) (by decide +kernel) trivial trivial (yT_k (yV_c (c := 0) (by decide) (by decide) (by omega)) (yT_k (yV_c (c := 0) (by decide) (by decide) (by omega)) trivial))
          · skip
            rcases izc (a 2).toInt (2) with h6 | h6
            · skip
              exact zBox_L (n := 1000000) (as := [.inl 0, .inl 1]) (bs := []) (T := []) (l := []) (by decide) (by decide) (by decide +kernel) trivial trivial (yT_k (yV_c (c := 0) (by decide) (by decide) (by omega)) (yT_k (yV_c (c := 1) (by decide) (by decide) (by omega)) trivial))
            · skip
              rcases izc (a 2).toInt (3) with h7 | h7
              · skip
                exact zBox_L (n := 1000000) (as := [.inl 0, .inl 2]) (bs := []) (T := []) (l := []) (by decide) (by decide) (by decide +kernel) trivial trivial (yT_k (yV_c (c := 0) (by decide) (by decide) (by omega)) (yT_k (yV_c (c := 2) (by decide) (by decide) (by omega)) trivial))
              · skip
                rcases izc (a 2).toInt (4) with h8 | h8
                · skip
                  exact zBox_L (n := 1000000) (as := [.inl 0, .inl 3]) (bs := []) (T := []) (l := []) (by decide) (by decide) (by decide +kernel) trivial trivial (yT_k (yV_c (c := 0) (by decide) (by decide) (by omega)) (yT_k (yV_c (c := 3) (by decide) (by decide) (by omega)) trivial))
                · skip
                  rcases izc (a 2).toInt (5) with h9 | h9
                  · skip
                    exact zBox_L (n := 1000000) (as := [.inl 0, .inl 4]) (bs := []) (T := []) (l := []) (by decide) (by decide) (by decide +kernel) trivial trivial (yT_k (yV_c (c := 0) (by decide) (by decide) (by omega)) (yT_k (yV_c (c := 4) (by decide) (by decide) (by omega)) trivial))
                  · skip
                    rcases izc (a 2).toInt (6) with h10 | h10
                    · skip
                      exact zBox_L (n := 1000000) (as := [.inl 0, .inl 5]) (bs := []) (T := []) (l := []) (by decide) (by decide) (by decide +kernel) trivial trivial (yT_k (yV_c (c := 0) (by decide) (by decide) (by omega)) (yT_k (yV_c (c := 5) (by decide) (by decide) (by omega)) trivial))
                    · skip
                      rcases izc (a 2).toInt (7) with h11 | h11
                      · skip
                        exact zBox_L (n := 1000000) (as := [.inl 0, .inl 6]) (bs := []) (T := []) (l := []) (by decide) (by decide) (by decide +kernel) trivial trivial (yT_k (yV_c (c := 0) (by decide) (by decide) (by omega)) (yT_k (yV_c (c := 6) (by decide) (by decide) (by omega)) trivial))
                      · skip
                        rcases izc (a 2).toInt (8) with h12 | h12
                        · skip
                          exact zBox_L (n := 1000000) (as := [.inl 0, .inl 7]) (bs := []) (T := []) (l := []) (by decide) (by decide) (by decide +kernel) trivial trivial (yT_k (yV_c (c := 0) (by decide) (by decide) (by omega)) (yT_k (yV_c (c := 7) (by decide) (by decide) (by omega)) trivial))
                        · skip
                          rcases izc (a 2).toInt (9) with h13 | h13
                          · skip
                            exact zBox_L (n := 1000000) (as := [.inl 0, .inl 8]) (bs := []) (T := []) (l := []) (by decide) (by decide) (by decide +kernel) trivial trivial (yT_k (yV_c (c := 0) (by decide) (by decide) (by omega)) (yT_k (yV_c (c := 8) (by decide) (by decide) (by omega)) trivial))
                          · skip
                            rcases izc (a 2).toInt (10) with h14 | h14
                            · skip
                              exact zBox_L (n := 1000000) (as := [.inl 0, .inl 9]) (bs := []) (T := []) (l := []) (by decide) (by decide) (by decide +kernel) trivial trivial (yT_k (yV_c (c := 0) (by decide) (by decide) (by omega)) (yT_k (yV_c (c := 9) (by decide) (by decide) (by omega)) trivial))
                            · skip
                              rcases izc (a 2).toInt (11) with h15 | h15
                              · skip
                                exact zBox_L (n := 1000000) (as := [.inl 0, .inl 10]) (bs := []) (T := []) (l := []) (by decide) (by decide) (by decide +kernel) trivial trivial (yT_k (yV_c (c := 0) (by decide) (by decide) (by omega)) (yT_k (yV_c (c := 10) (by decide) (by decide) (by omega)) trivial))
                              · skip
                                rcases izc (a 2).toInt (12) with h16 | h16
                                · skip
                                  exact zBox_L (n := 1000000) (as := [.inl 0, .inl 11]) (bs := []) (T := []) (l := []) (by decide) (by decide) (by decide +kernel) trivial trivial (yT_k (yV_c (c := 0) (by decide) (by decide) (by omega)) (yT_k (yV_c (c := 11) (by decide) (by decide) (by omega)) trivial))
                                · skip
                                  rcases izc (a 2).toInt (13) with h17 | h17
                                  · skip
                                    exact zBox_L (n := 1000000) (as := [.inl 0, .inl 12]) (bs := []) (T := []) (l := []) (by decide) (by decide) (by decide +kernel) trivial trivial (yT_k (yV_c (c := 0) (by decide) (by decide) (by omega)) (yT_k (yV_c (c := 12) (by decide) (by decide) (by omega)) trivial))
                                  · skip
                                    rcases izc (a 2).toInt (14) with h18 | h18
                                    · skip
                                      exact zBox_L (n := 1000000) (as := [.inl 0, .inl 13]) (bs := []) (T := []) (l := []) (by decide) (by decide) (by decide +kernel) trivial trivial (yT_k (yV_c (c := 0) (by decide) (by decide) (by omega)) (yT_k (yV_c (c := 13) (by decide) (by decide) (by omega)) trivial))
                                    · skip
                                      rcases izc (a 2).toInt (15) with h19 | h19
                                      · skip
                                        exact zBox_L (n := 1000000) (as := [.inl 0, .inl 14]) (bs := []) (T := []) (l := []) (by decide) (by decide) (by decide +kernel) trivial trivial (yT_k (yV_c (c := 0) (by decide) (by decide) (by omega)) (yT_k (yV_c (c := 14) (by decide) (by decide) (by omega)) trivial))
                                      · skip
                                        rcases izc (a 2).toInt (16) with h20 | h20
                                        · skip
                                          exact zBox_L (n := 1000000) (as := [.inl 0, .inl 15]) (bs := []) (T := []) (l := []) (by decide) (by decide) (by decide +kernel) trivial trivial (yT_k (yV_c (c := 0) (by decide) (by decide) (by omega)) (yT_k (yV_c (c := 15) (by decide) (by decide) (by omega)) trivial))
                                        · skip
                                          rcases izc (a 2).toInt (17) with h21 | h21
                                          · skip
                                            exact zBox_L (n := 1000000) (as := [.inl 0, .inl 16]) (bs := []) (T := []) (l := []) (by decide) (by decide) (by decide +kernel) trivial trivial (yT_k (yV_c (c := 0) (by decide) (by decide) (by omega)) (yT_k (yV_c (c := 16) (by decide) (by decide) (by omega)) trivial))
                                          · skip
                                            rcases izc (a 2).toInt (18) with h22 | h22
                                            · skip
                                              exact zBox_L (n := 1000000) (as := [.inl 0, .inl 17]) (bs := []) (T := []) (l := []) (by decide) (by decide) (by decide +kernel) trivial trivial (yT_k (yV_c (c := 0) (by decide) (by decide) (by omega)) (yT_k (yV_c (c := 17) (by decide) (by decide) (by omega)) trivial))
                                            · skip
                                              rcases izc (a 2).toInt (19) with h23 | h23
                                              · skip
                                                exact zBox_L (n := 1000000) (as := [.inl 0, .inl 18]) (bs := []) (T := []) (l := []) (by decide) (by decide) (by decide +kernel) trivial trivial (yT_k (yV_c (c := 0) (by decide) (by decide) (by omega)) (yT_k (yV_c (c := 18) (by decide) (by decide) (by omega)) trivial))
                                              · skip
                                                rcases izc (a 2).toInt (20) with h24 | h24
                                                · skip
                                                  exact zBox_L (n := 1000000) (as := [.inl 0, .inl 19]) (bs := []) (T := []) (l := []) (by decide) (by decide) (by decide +kernel) trivial trivial (yT_k (yV_c (c := 0) (by decide) (by decide) (by omega)) (yT_k (yV_c (c := 19) (by decide) (by decide) (by omega)) trivial))
                                                · skip
                                                  rcases izc (a 2).toInt (21) with h25 | h25
                                                  · skip
                                                    exact zBox_L (n := 1000000) (as := [.inl 0, .inl 20]) (bs := []) (T := []) (l := []) (by decide) (by decide) (by decide +kernel) trivial trivial (yT_k (yV_c (c := 0) (by decide) (by decide) (by omega)) (yT_k (yV_c (c := 20) (by decide) (by decide) (by omega)) trivial))
                                                  · skip
                                                    rcases izc (a 2).toInt (22) with h26 | h26
                                                    · skip
                                                      exact zBox_L (n := 1000000) (as := [.inl 0, .inl 21]) (bs := []) (T := []) (l := []) (by decide) (by decide) (by decide +kernel) trivial trivial (yT_k (yV_c (c := 0) (by decide) (by decide) (by omega)) (yT_k (yV_c (c := 21) (by decide) (by decide) (by omega)) trivial))
                                                    · skip
                                                      rcases izc (a 2).toInt (23) with h27 | h27
                                                      · skip
                                                        exact zBox_L (n := 1000000) (as := [.inl 0, .inl 22]) (bs := []) (T := []) (l := []) (by decide) (by decide) (by decide +kernel) trivial trivial (yT_k (yV_c (c := 0) (by decide) (by decide) (by omega)) (yT_k (yV_c (c := 22) (by decide) (by decide) (by omega)) trivial))
                                                      · skip
                                                        rcases izc (a 2).toInt (24) with h28 | h28
                                                        · skip
                                                          exact zBox_L (n := 1000000) (as := [.inl 0, .inl 23]) (bs := []) (T := []) (l := []) (by decide) (by decide) (by decide +kernel) trivial trivial (yT_k (yV_c (c := 0) (by decide) (by decide) (by omega)) (yT_k (yV_c (c := 23) (by decide) (by decide) (by omega)) trivial))
                                                        · skip
                                                          rcases izc (a 2).toInt (25) with h29 | h29
                                                          · skip
                                                            exact zBox_L (n := 1000000) (as := [.inl 0, .inl 24]) (bs := []) (T := []) (l := []) (by decide) (by decide) (by decide +kernel) trivial trivial (yT_k (yV_c (c := 0) (by decide) (by decide) (by omega)) (yT_k (yV_c (c := 24) (by decide) (by decide) (by omega)) trivial))
                                                          · skip
                                                            rcases izc (a 2).toInt (26) with h30 | h30
                                                            · skip
                                                              exact zBox_L (n := 1000000) (as := [.inl 0, .inl 25]) (bs := []) (T := []) (l := []) (by decide) (by decide) (by decide +kernel) trivial trivial (yT_k (yV_c (c := 0) (by decide) (by decide) (by omega)) (yT_k (yV_c (c := 25) (by decide) (by decide) (by omega)) trivial))
                                                            · skip
                                                              rcases izc (a 2).toInt (27) with h31 | h31
                                                              · skip
                                                                exact zBox_L (n := 1000000) (as := [.inl 0, .inl 26]) (bs := []) (T := []) (l := []) (by decide) (by decide) (by decide +kernel) trivial trivial (yT_k (yV_c (c := 0) (by decide) (by decide) (by omega)) (yT_k (yV_c (c := 26) (by decide) (by decide) (by omega)) trivial))
                                                              · skip
                                                                rcases izc (a 2).toInt (28) with h32 | h32
                                                                · skip
                                                                  exact zBox_L (n := 1000000) (as := [.inl 0, .inl 27]) (bs := []) (T := []) (l := []) (by decide) (by decide) (by decide +kernel) trivial trivial (yT_k (yV_c (c := 0) (by decide) (by decide) (by omega)) (yT_k (yV_c (c := 27) (by decide) (by decide) (by omega)) trivial))
                                                                · skip
                                                                  rcases izc (a 2).toInt (29) with h33 | h33
                                                                  · skip
                                                                    exact zBox_L (n := 1000000) (as := [.inl 0, .inl 28]) (bs := []) (T := []) (l := []) (by decide) (by decide) (by decide +kernel) trivial trivial (yT_k (yV_c (c := 0) (by decide) (by decide) (by omega)) (yT_k (yV_c (c := 28) (by decide) (by decide) (by omega)) trivial))
                                                                  · skip
                                                                    rcases izc (a 2).toInt (30) with h34 | h34
                                                                    · skip
                                                                      exact zBox_L (n := 1000000) (as := [.inl 0, .inl 29]) (bs := []) (T := []) (l := []) (by decide) (by decide) (by decide +kernel) trivial trivial (yT_k (yV_c (c := 0) (by decide) (by decide) (by omega)) (yT_k (yV_c (c := 29) (by decide) (by decide) (by omega)) trivial))
                                                                    · skip
                                                                      rcases izc (a 2).toInt (31) with h35 | h35
                                                                      · skip
                                                                        exact zBox_L (n := 1000000) (as := [.inl 0, .inl 30]) (bs := []) (T := []) (l := []) (by decide) (by decide) (by decide +kernel) trivial trivial (yT_k (yV_c (c := 0) (by decide) (by decide) (by omega)) (yT_k (yV_c (c := 30) (by decide) (by decide) (by omega)) trivial))
                                                                      · skip
                                                                        rcases izc (a 2).toInt (32) with h36 | h36
                                                                        · skip
                                                                          exact zBox_L (n := 1000000) (as := [.inl 0, .inl 31]) (bs := []) (T := []) (l := []) (by decide) (by decide) (by decide +kernel) trivial trivial (yT_k (yV_c (c := 0) (by decide) (by decide) (by omega)) (yT_k (yV_c (c := 31) (by decide) (by decide) (by omega)) trivial))
                                                                        · skip
                                                                          rcases izc (a 2).toInt (33) with h37 | h37
                                                                          · skip
                                                                            exact zBox_L (n := 1000000) (as := [.inl 0, .inl 32]) (bs := []) (T := []) (l := []) (by decide) (by decide) (by decide +kernel) trivial trivial (yT_k (yV_c (c := 0) (by decide) (by decide) (by omega)) (yT_k (yV_c (c := 32) (by decide) (by decide) (by omega)) trivial))
                                                                          · skip
                                                                            rcases izc (a 2).toInt (34) with h38 | h38
                                                                            · skip
                                                                              exact zBox_L (n := 1000000) (as := [.inl 0, .inl 33]) (bs := []) (T := []) (l := []) (by decide) (by decide) (by decide +kernel) trivial trivial (yT_k (yV_c (c := 0) (by decide) (by decide) (by omega)) (yT_k (yV_c (c := 33) (by decide) (by decide) (by omega)) trivial))
                                                                            · skip
                                                                              rcases izc (a 2).toInt (35) with h39 | h39
                                                                              · skip
                                                                                exact zBox_L (n := 1000000) (as := [.inl 0, .inl 34]) (bs := []) (T := []) (l := []) (by decide) (by decide) (by decide +kernel) trivial trivial (yT_k (yV_c (c := 0) (by decide) (by decide) (by omega)) (yT_k (yV_c (c := 34) (by decide) (by decide) (by omega)) trivial))
                                                                              · skip
                                                                                rcases izc (a 2).toInt (36) with h40 | h40
                                                                                · skip
                                                                                  exact zBox_L (n := 1000000) (as := [.inl 0, .inl 35]) (bs := []) (T := []) (l := []) (by decide) (by decide) (by decide +kernel) trivial trivial (yT_k (yV_c (c := 0) (by decide) (by decide) (by omega)) (yT_k (yV_c (c := 35) (by decide) (by decide) (by omega)) trivial))
                                                                                · skip
                                                                                  rcases izc (a 2).toInt (37) with h41 | h41
                                                                                  · skip
                                                                                    exact zBox_L (n := 1000000) (as := [.inl 0, .inl 36]) (bs := []) (T := []) (l := []) (by decide) (by decide) (by decide +kernel) trivial trivial (yT_k (yV_c (c := 0) (by decide) (by decide) (by omega)) (yT_k (yV_c (c := 36) (by decide) (by decide) (by omega)) trivial))
                                                                                  · skip
                                                                                    rcases izc (a 2).toInt (38) with h42 | h42
                                                                                    · skip
                                                                                      exact zBox_L (n := 1000000) (as := [.inl 0, .inl 37]) (bs := []) (T := []) (l := []) (by decide) (by decide) (by decide +kernel) trivial trivial (yT_k (yV_c (c := 0) (by decide) (by decide) (by omega)) (yT_k (yV_c (c := 37) (by decide) (by decide) (by omega)) trivial))
                                                                                    · skip
                                                                                      rcases izc (a 2).toInt (39) with h43 | h43
                                                                                      · skip
                                                                                        exact zBox_L (n := 1000000) (as := [.inl 0, .inl 38]) (bs := []) (T := []) (l := []) (by decide) (by decide) (by decide +kernel) trivial trivial (yT_k (yV_c (c := 0) (by decide) (by decide) (by omega)) (yT_k (yV_c (c := 38) (by decide) (by decide) (by omega)) trivial))
                                                                                      · skip
                                                                                        rcases izc (a 2).toInt (40) with h44 | h44
                                                                                        · skip
                                                                                          exact zBox_L (n := 1000000) (as := [.inl 0, .inl 39]) (bs := []) (T := []) (l := []) (by decide) (by decide) (by decide +kernel) trivial trivial (yT_k (yV_c (c := 0) (by decide) (by decide) (by omega)) (yT_k (yV_c (c := 39) (by decide) (by decide) (by omega)) trivial))
                                                                                        · skip
                                                                                          rcases izc (a 2).toInt (41) with h45 | h45
                                                                                          · skip
                                                                                            exact zBox_L (n := 1000000) (as := [.inl 0, .inl 40]) (bs := []) (T := []) (l := []) (by decide) (by decide) (by decide +kernel) trivial trivial (yT_k (yV_c (c := 0) (by decide) (by decide) (by omega)) (yT_k (yV_c (c := 40) (by decide) (by decide) (by omega)) trivial))
                                                                                          · skip
                                                                                            exact zBox_L (n := 1000000) (as := [.inl 0, .inr (.inr (.inr (.inl [(1, [0])])))]) (bs := [(41, 2147483647)]) (T := []) (l := [(a 2).toInt]) (by decide) (by decide) (by decide +kernel) ⟨⟨by omega, by omega⟩, trivial⟩ trivial (yT_k (yV_c (c := 0) (by decide) (by decide) (by omega)) (yT_k (yV_v (j := 0) rfl) trivial))
      · skip
        rcases izc (a 1).toInt (2) with h4 | h4
        · skip
          rcases izc (a 2).toInt (0) with h5 | h5
          · skip
            exact zBox_L (n := 1000000) (as := [.inl 1, .inr (.inr (.inr (.inl [(1, [0])])))]) (bs := [(-2147483648, -1)]) (T := []) (l := [(a 2).toInt]) (by decide) (by decide) (by decide +kernel) ⟨⟨by omega, by omega⟩, trivial⟩ trivial (yT_k (yV_c (c := 1) (by decide) (by decide) (by omega)) (yT_k (yV_v (j := 0) rfl) trivial))
          · skip
            rcases izc (a 2).toInt (1) with h6 | h6
            · skip
              exact zBox_L (n := 1000000) (as := [.inl 1, .inl 0]) (bs := []) (T := []) (l := []) (by decide) (by decide) (by decide +kernel) trivial trivial (yT_k (yV_c (c := 1) (by decide) (by decide) (by omega)) (yT_k (yV_c (c := 0) (by decide) (by decide) (by omega)) trivial))
            · skip
              rcases izc (a 2).toInt (2) with h7 | h7
              · skip
                exact zBox_L (n := 1000000) (as := [.inl 1, .inl 1]) (bs := []) (T := []) (l := []) (by decide) (by decide) (by decide +kernel) trivial trivial (yT_k (yV_c (c := 1) (by decide) (by decide) (by omega)) (yT_k (yV_c (c := 1) (by decide) (by decide) (by omega)) trivial))
              · skip
                rcases izc (a 2).toInt (3) with h8 | h8
                · skip
                  exact zBox_L (n := 1000000) (as := [.inl 1, .inl 2]) (bs := []) (T := []) (l := []) (by decide) (by decide) (by decide +kernel) trivial trivial (yT_k (yV_c (c := 1) (by decide) (by decide) (by omega)) (yT_k (yV_c (c := 2) (by decide) (by decide) (by omega)) trivial))
                · skip
                  rcases izc (a 2).toInt (4) with h9 | h9
                  · skip
                    exact zBox_L (n := 1000000) (as := [.inl 1, .inl 3]) (bs := []) (T := []) (l := []) (by decide) (by decide) (by decide +kernel) trivial trivial (yT_k (yV_c (c := 1) (by decide) (by decide) (by omega)) (yT_k (yV_c (c := 3) (by decide) (by decide) (by omega)) trivial))
                  · skip
                    rcases izc (a 2).toInt (5) with h10 | h10
                    · skip
                      exact zBox_L (n := 1000000) (as := [.inl 1, .inl 4]) (bs := []) (T := []) (l := []) (by decide) (by decide) (by decide +kernel) trivial trivial (yT_k (yV_c (c := 1) (by decide) (by decide) (by omega)) (yT_k (yV_c (c := 4) (by decide) (by decide) (by omega)) trivial))
                    · skip
                      rcases izc (a 2).toInt (6) with h11 | h11
                      · skip
                        exact zBox_L (n := 1000000) (as := [.inl 1, .inl 5]) (bs := []) (T := []) (l := []) (by decide) (by decide) (by decide +kernel) trivial trivial (yT_k (yV_c (c := 1) (by decide) (by decide) (by omega)) (yT_k (yV_c (c := 5) (by decide) (by decide) (by omega)) trivial))
                      · skip
                        rcases izc (a 2).toInt (7) with h12 | h12
                        · skip
                          exact zBox_L (n := 1000000) (as := [.inl 1, .inl 6]) (bs := []) (T := []) (l := []) (by decide) (by decide) (by decide +kernel) trivial trivial (yT_k (yV_c (c := 1) (by decide) (by decide) (by omega)) (yT_k (yV_c (c := 6) (by decide) (by decide) (by omega)) trivial))
                        · skip
                          rcases izc (a 2).toInt (8) with h13 | h13
                          · skip
                            exact zBox_L (n := 1000000) (as := [.inl 1, .inl 7]) (bs := []) (T := []) (l := []) (by decide) (by decide) (by decide +kernel) trivial trivial (yT_k (yV_c (c := 1) (by decide) (by decide) (by omega)) (yT_k (yV_c (c := 7) (by decide) (by decide) (by omega)) trivial))
                          · skip
                            rcases izc (a 2).toInt (9) with h14 | h14
                            · skip
                              exact zBox_L (n := 1000000) (as := [.inl 1, .inl 8]) (bs := []) (T := []) (l := []) (by decide) (by decide) (by decide +kernel) trivial trivial (yT_k (yV_c (c := 1) (by decide) (by decide) (by omega)) (yT_k (yV_c (c := 8) (by decide) (by decide) (by omega)) trivial))
                            · skip
                              rcases izc (a 2).toInt (10) with h15 | h15
                              · skip
                                exact zBox_L (n := 1000000) (as := [.inl 1, .inl 9]) (bs := []) (T := []) (l := []) (by decide) (by decide) (by decide +kernel) trivial trivial (yT_k (yV_c (c := 1) (by decide) (by decide) (by omega)) (yT_k (yV_c (c := 9) (by decide) (by decide) (by omega)) trivial))
                              · skip
                                rcases izc (a 2).toInt (11) with h16 | h16
                                · skip
                                  exact zBox_L (n := 1000000) (as := [.inl 1, .inl 10]) (bs := []) (T := []) (l := []) (by decide) (by decide) (by decide +kernel) trivial trivial (yT_k (yV_c (c := 1) (by decide) (by decide) (by omega)) (yT_k (yV_c (c := 10) (by decide) (by decide) (by omega)) trivial))
                                · skip
                                  rcases izc (a 2).toInt (12) with h17 | h17
                                  · skip
                                    exact zBox_L (n := 1000000) (as := [.inl 1, .inl 11]) (bs := []) (T := []) (l := []) (by decide) (by decide) (by decide +kernel) trivial trivial (yT_k (yV_c (c := 1) (by decide) (by decide) (by omega)) (yT_k (yV_c (c := 11) (by decide) (by decide) (by omega)) trivial))
                                  · skip
                                    rcases izc (a 2).toInt (13) with h18 | h18
                                    · skip
                                      exact zBox_L (n := 1000000) (as := [.inl 1, .inl 12]) (bs := []) (T := []) (l := []) (by decide) (by decide) (by decide +kernel) trivial trivial (yT_k (yV_c (c := 1) (by decide) (by decide) (by omega)) (yT_k (yV_c (c := 12) (by decide) (by decide) (by omega)) trivial))
                                    · skip
                                      rcases izc (a 2).toInt (14) with h19 | h19
                                      · skip
                                        exact zBox_L (n := 1000000) (as := [.inl 1, .inl 13]) (bs := []) (T := []) (l := []) (by decide) (by decide) (by decide +kernel) trivial trivial (yT_k (yV_c (c := 1) (by decide) (by decide) (by omega)) (yT_k (yV_c (c := 13) (by decide) (by decide) (by omega)) trivial))
                                      · skip
                                        rcases izc (a 2).toInt (15) with h20 | h20
                                        · skip
                                          exact zBox_L (n := 1000000) (as := [.inl 1, .inl 14]) (bs := []) (T := []) (l := []) (by decide) (by decide) (by decide +kernel) trivial trivial (yT_k (yV_c (c := 1) (by decide) (by decide) (by omega)) (yT_k (yV_c (c := 14) (by decide) (by decide) (by omega)) trivial))
                                        · skip
                                          rcases izc (a 2).toInt (16) with h21 | h21
                                          · skip
                                            exact zBox_L (n := 1000000) (as := [.inl 1, .inl 15]) (bs := []) (T := []) (l := []) (by decide) (by decide) (by decide +kernel) trivial trivial (yT_k (yV_c (c := 1) (by decide) (by decide) (by omega)) (yT_k (yV_c (c := 15) (by decide) (by decide) (by omega)) trivial))
                                          · skip
                                            rcases izc (a 2).toInt (17) with h22 | h22
                                            · skip
                                              exact zBox_L (n := 1000000) (as := [.inl 1, .inl 16]) (bs := []) (T := []) (l := []) (by decide) (by decide) (by decide +kernel) trivial trivial (yT_k (yV_c (c := 1) (by decide) (by decide) (by omega)) (yT_k (yV_c (c := 16) (by decide) (by decide) (by omega)) trivial))
                                            · skip
                                              rcases izc (a 2).toInt (18) with h23 | h23
                                              · skip
                                                exact zBox_L (n := 1000000) (as := [.inl 1, .inl 17]) (bs := []) (T := []) (l := []) (by decide) (by decide) (by decide +kernel) trivial trivial (yT_k (yV_c (c := 1) (by decide) (by decide) (by omega)) (yT_k (yV_c (c := 17) (by decide) (by decide) (by omega)) trivial))
                                              · skip
                                                rcases izc (a 2).toInt (19) with h24 | h24
                                                · skip
                                                  exact zBox_L (n := 1000000) (as := [.inl 1, .inl 18]) (bs := []) (T := []) (l := []) (by decide) (by decide) (by decide +kernel) trivial trivial (yT_k (yV_c (c := 1) (by decide) (by decide) (by omega)) (yT_k (yV_c (c := 18) (by decide) (by decide) (by omega)) trivial))
                                                · skip
                                                  rcases izc (a 2).toInt (20) with h25 | h25
                                                  · skip
                                                    exact zBox_L (n := 1000000) (as := [.inl 1, .inl 19]) (bs := []) (T := []) (l := []) (by decide) (by decide) (by decide +kernel) trivial trivial (yT_k (yV_c (c := 1) (by decide) (by decide) (by omega)) (yT_k (yV_c (c := 19) (by decide) (by decide) (by omega)) trivial))
                                                  · skip
                                                    rcases izc (a 2).toInt (21) with h26 | h26
                                                    · skip
                                                      exact zBox_L (n := 1000000) (as := [.inl 1, .inl 20]) (bs := []) (T := []) (l := []) (by decide) (by decide) (by decide +kernel) trivial trivial (yT_k (yV_c (c := 1) (by decide) (by decide) (by omega)) (yT_k (yV_c (c := 20) (by decide) (by decide) (by omega)) trivial))
                                                    · skip
                                                      rcases izc (a 2).toInt (22) with h27 | h27
                                                      · skip
                                                        exact zBox_L (n := 1000000) (as := [.inl 1, .inl 21]) (bs := []) (T := []) (l := []) (by decide) (by decide) (by decide +kernel) trivial trivial (yT_k (yV_c (c := 1) (by decide) (by decide) (by omega)) (yT_k (yV_c (c := 21) (by decide) (by decide) (by omega)) trivial))
                                                      · skip
                                                        rcases izc (a 2).toInt (23) with h28 | h28
                                                        · skip
                                                          exact zBox_L (n := 1000000) (as := [.inl 1, .inl 22]) (bs := []) (T := []) (l := []) (by decide) (by decide) (by decide +kernel) trivial trivial (yT_k (yV_c (c := 1) (by decide) (by decide) (by omega)) (yT_k (yV_c (c := 22) (by decide) (by decide) (by omega)) trivial))
                                                        · skip
                                                          rcases izc (a 2).toInt (24) with h29 | h29
                                                          · skip
                                                            exact zBox_L (n := 1000000) (as := [.inl 1, .inl 23]) (bs := []) (T := []) (l := []) (by decide) (by decide) (by decide +kernel) trivial trivial (yT_k (yV_c (c := 1) (by decide) (by decide) (by omega)) (yT_k (yV_c (c := 23) (by decide) (by decide) (by omega)) trivial))
                                                          · skip
                                                            rcases izc (a 2).toInt (25) with h30 | h30
                                                            · skip
                                                              exact zBox_L (n := 1000000) (as := [.inl 1, .inl 24]) (bs := []) (T := []) (l := []) (by decide) (by decide) (by decide +kernel) trivial trivial (yT_k (yV_c (c := 1) (by decide) (by decide) (by omega)) (yT_k (yV_c (c := 24) (by decide) (by decide) (by omega)) trivial))
                                                            · skip
                                                              rcases izc (a 2).toInt (26) with h31 | h31
                                                              · skip
                                                                exact zBox_L (n := 1000000) (as := [.inl 1, .inl 25]) (bs := []) (T := []) (l := []) (by decide) (by decide) (by decide +kernel) trivial trivial (yT_k (yV_c (c := 1) (by decide) (by decide) (by omega)) (yT_k (yV_c (c := 25) (by decide) (by decide) (by omega)) trivial))
                                                              · skip
                                                                rcases izc (a 2).toInt (27) with h32 | h32
                                                                · skip
                                                                  exact zBox_L (n := 1000000) (as := [.inl 1, .inl 26]) (bs := []) (T := []) (l := []) (by decide) (by decide) (by decide +kernel) trivial trivial (yT_k (yV_c (c := 1) (by decide) (by decide) (by omega)) (yT_k (yV_c (c := 26) (by decide) (by decide) (by omega)) trivial))
                                                                · skip
                                                                  rcases izc (a 2).toInt (28) with h33 | h33
                                                                  · skip
                                                                    exact zBox_L (n := 1000000) (as := [.inl 1, .inl 27]) (bs := []) (T := []) (l := []) (by decide) (by decide) (by decide +kernel) trivial trivial (yT_k (yV_c (c := 1) (by decide) (by decide) (by omega)) (yT_k (yV_c (c := 27) (by decide) (by decide) (by omega)) trivial))
                                                                  · skip
                                                                    rcases izc (a 2).toInt (29) with h34 | h34
                                                                    · skip
                                                                      exact zBox_L (n := 1000000) (as := [.inl 1, .inl 28]) (bs := []) (T := []) (l := []) (by decide) (by decide) (by decide +kernel) trivial trivial (yT_k (yV_c (c := 1) (by decide) (by decide) (by omega)) (yT_k (yV_c (c := 28) (by decide) (by decide) (by omega)) trivial))
                                                                    · skip
                                                                      rcases izc (a 2).toInt (30) with h35 | h35
                                                                      · skip
                                                                        exact zBox_L (n := 1000000) (as := [.inl 1, .inl 29]) (bs := []) (T := []) (l := []) (by decide) (by decide) (by decide +kernel) trivial trivial (yT_k (yV_c (c := 1) (by decide) (by decide) (by omega)) (yT_k (yV_c (c := 29) (by decide) (by decide) (by omega)) trivial))
                                                                      · skip
                                                                        rcases izc (a 2).toInt (31) with h36 | h36
                                                                        · skip
                                                                          exact zBox_L (n := 1000000) (as := [.inl 1, .inl 30]) (bs := []) (T := []) (l := []) (by decide) (by decide) (by decide +kernel) trivial trivial (yT_k (yV_c (c := 1) (by decide) (by decide) (by omega)) (yT_k (yV_c (c := 30) (by decide) (by decide) (by omega)) trivial))
                                                                        · skip
                                                                          rcases izc (a 2).toInt (32) with h37 | h37
                                                                          · skip
                                                                            exact zBox_L (n := 1000000) (as := [.inl 1, .inl 31]) (bs := []) (T := []) (l := []) (by decide) (by decide) (by decide +kernel) trivial trivial (yT_k (yV_c (c := 1) (by decide) (by decide) (by omega)) (yT_k (yV_c (c := 31) (by decide) (by decide) (by omega)) trivial))
                                                                          · skip
                                                                            rcases izc (a 2).toInt (33) with h38 | h38
                                                                            · skip
                                                                              exact zBox_L (n := 1000000) (as := [.inl 1, .inl 32]) (bs := []) (T := []) (l := []) (by decide) (by decide) (by decide +kernel) trivial trivial (yT_k (yV_c (c := 1) (by decide) (by decide) (by omega)) (yT_k (yV_c (c := 32) (by decide) (by decide) (by omega)) trivial))
                                                                            · skip
                                                                              rcases izc (a 2).toInt (34) with h39 | h39
                                                                              · skip
                                                                                exact zBox_L (n := 1000000) (as := [.inl 1, .inl 33]) (bs := []) (T := []) (l := []) (by decide) (by decide) (by decide +kernel) trivial trivial (yT_k (yV_c (c := 1) (by decide) (by decide) (by omega)) (yT_k (yV_c (c := 33) (by decide) (by decide) (by omega)) trivial))
                                                                              · skip
                                                                                rcases izc (a 2).toInt (35) with h40 | h40
                                                                                · skip
                                                                                  exact zBox_L (n := 1000000) (as := [.inl 1, .inl 34]) (bs := []) (T := []) (l := []) (by decide) (by decide) (by decide +kernel) trivial trivial (yT_k (yV_c (c := 1) (by decide) (by decide) (by omega)) (yT_k (yV_c (c := 34) (by decide) (by decide) (by omega)) trivial))
                                                                                · skip
                                                                                  rcases izc (a 2).toInt (36) with h41 | h41
                                                                                  · skip
                                                                                    exact zBox_L (n := 1000000) (as := [.inl 1, .inl 35]) (bs := []) (T := []) (l := []) (by decide) (by decide) (by decide +kernel) trivial trivial (yT_k (yV_c (c := 1) (by decide) (by decide) (by omega)) (yT_k (yV_c (c := 35) (by decide) (by decide) (by omega)) trivial))
                                                                                  · skip
                                                                                    rcases izc (a 2).toInt (37) with h42 | h42
                                                                                    · skip
                                                                                      exact zBox_L (n := 1000000) (as := [.inl 1, .inl 36]) (bs := []) (T := []) (l := []) (by decide) (by decide) (by decide +kernel) trivial trivial (yT_k (yV_c (c := 1) (by decide) (by decide) (by omega)) (yT_k (yV_c (c := 36) (by decide) (by decide) (by omega)) trivial))
                                                                                    · skip
                                                                                      rcases izc (a 2).toInt (38) with h43 | h43
                                                                                      · skip
                                                                                        exact zBox_L (n := 1000000) (as := [.inl 1, .inl 37]) (bs := []) (T := []) (l := []) (by decide) (by decide) (by decide +kernel) trivial trivial (yT_k (yV_c (c := 1) (by decide) (by decide) (by omega)) (yT_k (yV_c (c := 37) (by decide) (by decide) (by omega)) trivial))
                                                                                      · skip
                                                                                        rcases izc (a 2).toInt (39) with h44 | h44
                                                                                        · skip
                                                                                          exact zBox_L (n := 1000000) (as := [.inl 1, .inl 38]) (bs := []) (T := []) (l := []) (by decide) (by decide) (by decide +kernel) trivial trivial (yT_k (yV_c (c := 1) (by decide) (by decide) (by omega)) (yT_k (yV_c (c := 38) (by decide) (by decide) (by omega)) trivial))
                                                                                        · skip
                                                                                          rcases izc (a 2).toInt (40) with h45 | h45
                                                                                          · skip
                                                                                            exact zBox_L (n := 1000000) (as := [.inl 1, .inl 39]) (bs := []) (T := []) (l := []) (by decide) (by decide) (by decide +kernel) trivial trivial (yT_k (yV_c (c := 1) (by decide) (by decide) (by omega)) (yT_k (yV_c (c := 39) (by decide) (by decide) (by omega)) trivial))
                                                                                          · skip
                                                                                            rcases izc (a 2).toInt (41) with h46 | h46
                                                                                            · skip
                                                                                              exact zBox_L (n := 1000000) (as := [.inl 1, .inl 40]) (bs := []) (T := []) (l := []) (by decide) (by decide) (by decide +kernel) trivial trivial (yT_k (yV_c (c := 1) (by decide) (by decide) (by omega)) (yT_k (yV_c (c := 40) (by decide) (by decide) (by omega)) trivial))
                                                                                            · skip
                                                                                              exact zBox_L (n := 1000000) (as := [.inl 1, .inr (.inr (.inr (.inl [(1, [0])])))]) (bs := [(41, 2147483647)]) (T := []) (l := [(a 2).toInt]) (by decide) (by decide) (by decide +kernel) ⟨⟨by omega, by omega⟩, trivial⟩ trivial (yT_k (yV_c (c := 1) (by decide) (by decide) (by omega)) (yT_k (yV_v (j := 0) rfl) trivial))
        · skip
          rcases izc (a 1).toInt (3) with h5 | h5
          · skip
            rcases izc (a 2).toInt (0) with h6 | h6
            · skip
              exact zBox_L (n := 1000000) (as := [.inl 2, .inr (.inr (.inr (.inl [(1, [0])])))]) (bs := [(-2147483648, -1)]) (T := []) (l := [(a 2).toInt]) (by decide) (by decide) (by decide +kernel) ⟨⟨by omega, by omega⟩, trivial⟩ trivial (yT_k (yV_c (c := 2) (by decide) (by decide) (by omega)) (yT_k (yV_v (j := 0) rfl) trivial))
            · skip
              rcases izc (a 2).toInt (1) with h7 | h7
              · skip
                exact zBox_L (n := 1000000) (as := [.inl 2, .inl 0]) (bs := []) (T := []) (l := []) (by decide) (by decide) (by decide +kernel) trivial trivial (yT_k (yV_c (c := 2) (by decide) (by decide) (by omega)) (yT_k (yV_c (c := 0) (by decide) (by decide) (by omega)) trivial))
              · skip
                rcases izc (a 2).toInt (2) with h8 | h8
                · skip
                  exact zBox_L (n := 1000000) (as := [.inl 2, .inl 1]) (bs := []) (T := []) (l := []) (by decide) (by decide) (by decide +kernel) trivial trivial (yT_k (yV_c (c := 2) (by decide) (by decide) (by omega)) (yT_k (yV_c (c := 1) (by decide) (by decide) (by omega)) trivial))
                · skip
                  rcases izc (a 2).toInt (3) with h9 | h9
                  · skip
                    exact zBox_L (n := 1000000) (as := [.inl 2, .inl 2]) (bs := []) (T := []) (l := []) (by decide) (by decide) (by decide +kernel) trivial trivial (yT_k (yV_c (c := 2) (by decide) (by decide) (by omega)) (yT_k (yV_c (c := 2) (by decide) (by decide) (by omega)) trivial))
                  · skip
                    rcases izc (a 2).toInt (4) with h10 | h10
                    · skip
                      exact zBox_L (n := 1000000) (as := [.inl 2, .inl 3]) (bs := []) (T := []) (l := []) (by decide) (by decide) (by decide +kernel) trivial trivial (yT_k (yV_c (c := 2) (by decide) (by decide) (by omega)) (yT_k (yV_c (c := 3) (by decide) (by decide) (by omega)) trivial))
                    · skip
                      rcases izc (a 2).toInt (5) with h11 | h11
                      · skip
                        exact zBox_L (n := 1000000) (as := [.inl 2, .inl 4]) (bs := []) (T := []) (l := []) (by decide) (by decide) (by decide +kernel) trivial trivial (yT_k (yV_c (c := 2) (by decide) (by decide) (by omega)) (yT_k (yV_c (c := 4) (by decide) (by decide) (by omega)) trivial))
                      · skip
                        rcases izc (a 2).toInt (6) with h12 | h12
                        · skip
                          exact zBox_L (n := 1000000) (as := [.inl 2, .inl 5]) (bs := []) (T := []) (l := []) (by decide) (by decide) (by decide +kernel) trivial trivial (yT_k (yV_c (c := 2) (by decide) (by decide) (by omega)) (yT_k (yV_c (c := 5) (by decide) (by decide) (by omega)) trivial))
                        · skip
                          rcases izc (a 2).toInt (7) with h13 | h13
                          · skip
                            exact zBox_L (n := 1000000) (as := [.inl 2, .inl 6]) (bs := []) (T := []) (l := []) (by decide) (by decide) (by decide +kernel) trivial trivial (yT_k (yV_c (c := 2) (by decide) (by decide) (by omega)) (yT_k (yV_c (c := 6) (by decide) (by decide) (by omega)) trivial))
                          · skip
                            rcases izc (a 2).toInt (8) with h14 | h14
                            · skip
                              exact zBox_L (n := 1000000) (as := [.inl 2, .inl 7]) (bs := []) (T := []) (l := []) (by decide) (by decide) (by decide +kernel) trivial trivial (yT_k (yV_c (c := 2) (by decide) (by decide) (by omega)) (yT_k (yV_c (c := 7) (by decide) (by decide) (by omega)) trivial))
                            · skip
                              rcases izc (a 2).toInt (9) with h15 | h15
                              · skip
                                exact zBox_L (n := 1000000) (as := [.inl 2, .inl 8]) (bs := []) (T := []) (l := []) (by decide) (by decide) (by decide +kernel) trivial trivial (yT_k (yV_c (c := 2) (by decide) (by decide) (by omega)) (yT_k (yV_c (c := 8) (by decide) (by decide) (by omega)) trivial))
                              · skip
                                rcases izc (a 2).toInt (10) with h16 | h16
                                · skip
                                  exact zBox_L (n := 1000000) (as := [.inl 2, .inl 9]) (bs := []) (T := []) (l := []) (by decide) (by decide) (by decide +kernel) trivial trivial (yT_k (yV_c (c := 2) (by decide) (by decide) (by omega)) (yT_k (yV_c (c := 9) (by decide) (by decide) (by omega)) trivial))
                                · skip
                                  rcases izc (a 2).toInt (11) with h17 | h17
                                  · skip
                                    exact zBox_L (n := 1000000) (as := [.inl 2, .inl 10]) (bs := []) (T := []) (l := []) (by decide) (by decide) (by decide +kernel) trivial trivial (yT_k (yV_c (c := 2) (by decide) (by decide) (by omega)) (yT_k (yV_c (c := 10) (by decide) (by decide) (by omega)) trivial))
                                  · skip
                                    rcases izc (a 2).toInt (12) with h18 | h18
                                    · skip
                                      exact zBox_L (n := 1000000) (as := [.inl 2, .inl 11]) (bs := []) (T := []) (l := []) (by decide) (by decide) (by decide +kernel) trivial trivial (yT_k (yV_c (c := 2) (by decide) (by decide) (by omega)) (yT_k (yV_c (c := 11) (by decide) (by decide) (by omega)) trivial))
                                    · skip
                                      rcases izc (a 2).toInt (13) with h19 | h19
                                      · skip
                                        exact zBox_L (n := 1000000) (as := [.inl 2, .inl 12]) (bs := []) (T := []) (l := []) (by decide) (by decide) (by decide +kernel) trivial trivial (yT_k (yV_c (c := 2) (by decide) (by decide) (by omega)) (yT_k (yV_c (c := 12) (by decide) (by decide) (by omega)) trivial))
                                      · skip
                                        rcases izc (a 2).toInt (14) with h20 | h20
                                        · skip
                                          exact zBox_L (n := 1000000) (as := [.inl 2, .inl 13]) (bs := []) (T := []) (l := []) (by decide) (by decide) (by decide +kernel) trivial trivial (yT_k (yV_c (c := 2) (by decide) (by decide) (by omega)) (yT_k (yV_c (c := 13) (by decide) (by decide) (by omega)) trivial))
                                        · skip
                                          rcases izc (a 2).toInt (15) with h21 | h21
                                          · skip
                                            exact zBox_L (n := 1000000) (as := [.inl 2, .inl 14]) (bs := []) (T := []) (l := []) (by decide) (by decide) (by decide +kernel) trivial trivial (yT_k (yV_c (c := 2) (by decide) (by decide) (by omega)) (yT_k (yV_c (c := 14) (by decide) (by decide) (by omega)) trivial))
                                          · skip
                                            rcases izc (a 2).toInt (16) with h22 | h22
                                            · skip
                                              exact zBox_L (n := 1000000) (as := [.inl 2, .inl 15]) (bs := []) (T := []) (l := []) (by decide) (by decide) (by decide +kernel) trivial trivial (yT_k (yV_c (c := 2) (by decide) (by decide) (by omega)) (yT_k (yV_c (c := 15) (by decide) (by decide) (by omega)) trivial))
                                            · skip
                                              rcases izc (a 2).toInt (17) with h23 | h23
                                              · skip
                                                exact zBox_L (n := 1000000) (as := [.inl 2, .inl 16]) (bs := []) (T := []) (l := []) (by decide) (by decide) (by decide +kernel) trivial trivial (yT_k (yV_c (c := 2) (by decide) (by decide) (by omega)) (yT_k (yV_c (c := 16) (by decide) (by decide) (by omega)) trivial))
                                              · skip
                                                rcases izc (a 2).toInt (18) with h24 | h24
                                                · skip
                                                  exact zBox_L (n := 1000000) (as := [.inl 2, .inl 17]) (bs := []) (T := []) (l := []) (by decide) (by decide) (by decide +kernel) trivial trivial (yT_k (yV_c (c := 2) (by decide) (by decide) (by omega)) (yT_k (yV_c (c := 17) (by decide) (by decide) (by omega)) trivial))
                                                · skip
                                                  rcases izc (a 2).toInt (19) with h25 | h25
                                                  · skip
                                                    exact zBox_L (n := 1000000) (as := [.inl 2, .inl 18]) (bs := []) (T := []) (l := []) (by decide) (by decide) (by decide +kernel) trivial trivial (yT_k (yV_c (c := 2) (by decide) (by decide) (by omega)) (yT_k (yV_c (c := 18) (by decide) (by decide) (by omega)) trivial))
                                                  · skip
                                                    rcases izc (a 2).toInt (20) with h26 | h26
                                                    · skip
                                                      exact zBox_L (n := 1000000) (as := [.inl 2, .inl 19]) (bs := []) (T := []) (l := []) (by decide) (by decide) (by decide +kernel) trivial trivial (yT_k (yV_c (c := 2) (by decide) (by decide) (by omega)) (yT_k (yV_c (c := 19) (by decide) (by decide) (by omega)) trivial))
                                                    · skip
                                                      rcases izc (a 2).toInt (21) with h27 | h27
                                                      · skip
                                                        exact zBox_L (n := 1000000) (as := [.inl 2, .inl 20]) (bs := []) (T := []) (l := []) (by decide) (by decide) (by decide +kernel) trivial trivial (yT_k (yV_c (c := 2) (by decide) (by decide) (by omega)) (yT_k (yV_c (c := 20) (by decide) (by decide) (by omega)) trivial))
                                                      · skip
                                                        rcases izc (a 2).toInt (22) with h28 | h28
                                                        · skip
                                                          exact zBox_L (n := 1000000) (as := [.inl 2, .inl 21]) (bs := []) (T := []) (l := []) (by decide) (by decide) (by decide +kernel) trivial trivial (yT_k (yV_c (c := 2) (by decide) (by decide) (by omega)) (yT_k (yV_c (c := 21) (by decide) (by decide) (by omega)) trivial))
                                                        · skip
                                                          rcases izc (a 2).toInt (23) with h29 | h29
                                                          · skip
                                                            exact zBox_L (n := 1000000) (as := [.inl 2, .inl 22]) (bs := []) (T := []) (l := []) (by decide) (by decide) (by decide +kernel) trivial trivial (yT_k (yV_c (c := 2) (by decide) (by decide) (by omega)) (yT_k (yV_c (c := 22) (by decide) (by decide) (by omega)) trivial))
                                                          · skip
                                                            rcases izc (a 2).toInt (24) with h30 | h30
                                                            · skip
                                                              exact zBox_L (n := 1000000) (as := [.inl 2, .inl 23]) (bs := []) (T := []) (l := []) (by decide) (by decide) (by decide +kernel) trivial trivial (yT_k (yV_c (c := 2) (by decide) (by decide) (by omega)) (yT_k (yV_c (c := 23) (by decide) (by decide) (by omega)) trivial))
                                                            · skip
                                                              rcases izc (a 2).toInt (25) with h31 | h31
                                                              · skip
                                                                exact zBox_L (n := 1000000) (as := [.inl 2, .inl 24]) (bs := []) (T := []) (l := []) (by decide) (by decide) (by decide +kernel) trivial trivial (yT_k (yV_c (c := 2) (by decide) (by decide) (by omega)) (yT_k (yV_c (c := 24) (by decide) (by decide) (by omega)) trivial))
                                                              · skip
                                                                rcases izc (a 2).toInt (26) with h32 | h32
                                                                · skip
                                                                  exact zBox_L (n := 1000000) (as := [.inl 2, .inl 25]) (bs := []) (T := []) (l := []) (by decide) (by decide) (by decide +kernel) trivial trivial (yT_k (yV_c (c := 2) (by decide) (by decide) (by omega)) (yT_k (yV_c (c := 25) (by decide) (by decide) (by omega)) trivial))
                                                                · skip
                                                                  rcases izc (a 2).toInt (27) with h33 | h33
                                                                  · skip
                                                                    exact zBox_L (n := 1000000) (as := [.inl 2, .inl 26]) (bs := []) (T := []) (l := []) (by decide) (by decide) (by decide +kernel) trivial trivial (yT_k (yV_c (c := 2) (by decide) (by decide) (by omega)) (yT_k (yV_c (c := 26) (by decide) (by decide) (by omega)) trivial))
                                                                  · skip
                                                                    rcases izc (a 2).toInt (28) with h34 | h34
                                                                    · skip
                                                                      exact zBox_L (n := 1000000) (as := [.inl 2, .inl 27]) (bs := []) (T := []) (l := []) (by decide) (by decide) (by decide +kernel) trivial trivial (yT_k (yV_c (c := 2) (by decide) (by decide) (by omega)) (yT_k (yV_c (c := 27) (by decide) (by decide) (by omega)) trivial))
                                                                    · skip
                                                                      rcases izc (a 2).toInt (29) with h35 | h35
                                                                      · skip
                                                                        exact zBox_L (n := 1000000) (as := [.inl 2, .inl 28]) (bs := []) (T := []) (l := []) (by decide) (by decide) (by decide +kernel) trivial trivial (yT_k (yV_c (c := 2) (by decide) (by decide) (by omega)) (yT_k (yV_c (c := 28) (by decide) (by decide) (by omega)) trivial))
                                                                      · skip
                                                                        rcases izc (a 2).toInt (30) with h36 | h36
                                                                        · skip
                                                                          exact zBox_L (n := 1000000) (as := [.inl 2, .inl 29]) (bs := []) (T := []) (l := []) (by decide) (by decide) (by decide +kernel) trivial trivial (yT_k (yV_c (c := 2) (by decide) (by decide) (by omega)) (yT_k (yV_c (c := 29) (by decide) (by decide) (by omega)) trivial))
                                                                        · skip
                                                                          rcases izc (a 2).toInt (31) with h37 | h37
                                                                          · skip
                                                                            exact zBox_L (n := 1000000) (as := [.inl 2, .inl 30]) (bs := []) (T := []) (l := []) (by decide) (by decide) (by decide +kernel) trivial trivial (yT_k (yV_c (c := 2) (by decide) (by decide) (by omega)) (yT_k (yV_c (c := 30) (by decide) (by decide) (by omega)) trivial))
                                                                          · skip
                                                                            rcases izc (a 2).toInt (32) with h38 | h38
                                                                            · skip
                                                                              exact zBox_L (n := 1000000) (as := [.inl 2, .inl 31]) (bs := []) (T := []) (l := []) (by decide) (by decide) (by decide +kernel) trivial trivial (yT_k (yV_c (c := 2) (by decide) (by decide) (by omega)) (yT_k (yV_c (c := 31) (by decide) (by decide) (by omega)) trivial))
                                                                            · skip
                                                                              rcases izc (a 2).toInt (33) with h39 | h39
                                                                              · skip
                                                                                exact zBox_L (n := 1000000) (as := [.inl 2, .inl 32]) (bs := []) (T := []) (l := []) (by decide) (by decide) (by decide +kernel) trivial trivial (yT_k (yV_c (c := 2) (by decide) (by decide) (by omega)) (yT_k (yV_c (c := 32) (by decide) (by decide) (by omega)) trivial))
                                                                              · skip
                                                                                rcases izc (a 2).toInt (34) with h40 | h40
                                                                                · skip
                                                                                  exact zBox_L (n := 1000000) (as := [.inl 2, .inl 33]) (bs := []) (T := []) (l := []) (by decide) (by decide) (by decide +kernel) trivial trivial (yT_k (yV_c (c := 2) (by decide) (by decide) (by omega)) (yT_k (yV_c (c := 33) (by decide) (by decide) (by omega)) trivial))
                                                                                · skip
                                                                                  rcases izc (a 2).toInt (35) with h41 | h41
                                                                                  · skip
                                                                                    exact zBox_L (n := 1000000) (as := [.inl 2, .inl 34]) (bs := []) (T := []) (l := []) (by decide) (by decide) (by decide +kernel) trivial trivial (yT_k (yV_c (c := 2) (by decide) (by decide) (by omega)) (yT_k (yV_c (c := 34) (by decide) (by decide) (by omega)) trivial))
                                                                                  · skip
                                                                                    rcases izc (a 2).toInt (36) with h42 | h42
                                                                                    · skip
                                                                                      exact zBox_L (n := 1000000) (as := [.inl 2, .inl 35]) (bs := []) (T := []) (l := []) (by decide) (by decide) (by decide +kernel) trivial trivial (yT_k (yV_c (c := 2) (by decide) (by decide) (by omega)) (yT_k (yV_c (c := 35) (by decide) (by decide) (by omega)) trivial))
                                                                                    · skip
                                                                                      rcases izc (a 2).toInt (37) with h43 | h43
                                                                                      · skip
                                                                                        exact zBox_L (n := 1000000) (as := [.inl 2, .inl 36]) (bs := []) (T := []) (l := []) (by decide) (by decide) (by decide +kernel) trivial trivial (yT_k (yV_c (c := 2) (by decide) (by decide) (by omega)) (yT_k (yV_c (c := 36) (by decide) (by decide) (by omega)) trivial))
                                                                                      · skip
                                                                                        rcases izc (a 2).toInt (38) with h44 | h44
                                                                                        · skip
                                                                                          exact zBox_L (n := 1000000) (as := [.inl 2, .inl 37]) (bs := []) (T := []) (l := []) (by decide) (by decide) (by decide +kernel) trivial trivial (yT_k (yV_c (c := 2) (by decide) (by decide) (by omega)) (yT_k (yV_c (c := 37) (by decide) (by decide) (by omega)) trivial))
                                                                                        · skip
                                                                                          rcases izc (a 2).toInt (39) with h45 | h45
                                                                                          · skip
                                                                                            exact zBox_L (n := 1000000) (as := [.inl 2, .inl 38]) (bs := []) (T := []) (l := []) (by decide) (by decide) (by decide +kernel) trivial trivial (yT_k (yV_c (c := 2) (by decide) (by decide) (by omega)) (yT_k (yV_c (c := 38) (by decide) (by decide) (by omega)) trivial))
                                                                                          · skip
                                                                                            rcases izc (a 2).toInt (40) with h46 | h46
                                                                                            · skip
                                                                                              exact zBox_L (n := 1000000) (as := [.inl 2, .inl 39]) (bs := []) (T := []) (l := []) (by decide) (by decide) (by decide +kernel) trivial trivial (yT_k (yV_c (c := 2) (by decide) (by decide) (by omega)) (yT_k (yV_c (c := 39) (by decide) (by decide) (by omega)) trivial))
                                                                                            · skip
                                                                                              rcases izc (a 2).toInt (41) with h47 | h47
                                                                                              · skip
                                                                                                exact zBox_L (n := 1000000) (as := [.inl 2, .inl 40]) (bs := []) (T := []) (l := []) (by decide) (by decide) (by decide +kernel) trivial trivial (yT_k (yV_c (c := 2) (by decide) (by decide) (by omega)) (yT_k (yV_c (c := 40) (by decide) (by decide) (by omega)) trivial))
                                                                                              · skip
                                                                                                exact zBox_L (n := 1000000) (as := [.inl 2, .inr (.inr (.inr (.inl [(1, [0])])))]) (bs := [(41, 2147483647)]) (T := []) (l := [(a 2).toInt]) (by decide) (by decide) (by decide +kernel) ⟨⟨by omega, by omega⟩, trivial⟩ trivial (yT_k (yV_c (c := 2) (by decide) (by decide) (by omega)) (yT_k (yV_v (j := 0) rfl) trivial))
          · skip
            rcases izc (a 1).toInt (4) with h6 | h6
            · skip
              rcases izc (a 2).toInt (0) with h7 | h7
              · skip
                exact zBox_L (n := 1000000) (as := [.inl 3, .inr (.inr (.inr (.inl [(1, [0])])))]) (bs := [(-2147483648, -1)]) (T := []) (l := [(a 2).toInt]) (by decide) (by decide) (by decide +kernel) ⟨⟨by omega, by omega⟩, trivial⟩ trivial (yT_k (yV_c (c := 3) (by decide) (by decide) (by omega)) (yT_k (yV_v (j := 0) rfl) trivial))
              · skip
                rcases izc (a 2).toInt (1) with h8 | h8
                · skip
                  exact zBox_L (n := 1000000) (as := [.inl 3, .inl 0]) (bs := []) (T := []) (l := []) (by decide) (by decide) (by decide +kernel) trivial trivial (yT_k (yV_c (c := 3) (by decide) (by decide) (by omega)) (yT_k (yV_c (c := 0) (by decide) (by decide) (by omega)) trivial))
                · skip
                  rcases izc (a 2).toInt (2) with h9 | h9
                  · skip
                    exact zBox_L (n := 1000000) (as := [.inl 3, .inl 1]) (bs := []) (T := []) (l := []) (by decide) (by decide) (by decide +kernel) trivial trivial (yT_k (yV_c (c := 3) (by decide) (by decide) (by omega)) (yT_k (yV_c (c := 1) (by decide) (by decide) (by omega)) trivial))
                  · skip
                    rcases izc (a 2).toInt (3) with h10 | h10
                    · skip
                      exact zBox_L (n := 1000000) (as := [.inl 3, .inl 2]) (bs := []) (T := []) (l := []) (by decide) (by decide) (by decide +kernel) trivial trivial (yT_k (yV_c (c := 3) (by decide) (by decide) (by omega)) (yT_k (yV_c (c := 2) (by decide) (by decide) (by omega)) trivial))
                    · skip
                      rcases izc (a 2).toInt (4) with h11 | h11
                      · skip
                        exact zBox_L (n := 1000000) (as := [.inl 3, .inl 3]) (bs := []) (T := []) (l := []) (by decide) (by decide) (by decide +kernel) trivial trivial (yT_k (yV_c (c := 3) (by decide) (by decide) (by omega)) (yT_k (yV_c (c := 3) (by decide) (by decide) (by omega)) trivial))
                      · skip
                        rcases izc (a 2).toInt (5) with h12 | h12
                        · skip
                          exact zBox_L (n := 1000000) (as := [.inl 3, .inl 4]) (bs := []) (T := []) (l := []) (by decide) (by decide) (by decide +kernel) trivial trivial (yT_k (yV_c (c := 3) (by decide) (by decide) (by omega)) (yT_k (yV_c (c := 4) (by decide) (by decide) (by omega)) trivial))
                        · skip
                          rcases izc (a 2).toInt (6) with h13 | h13
                          · skip
                            exact zBox_L (n := 1000000) (as := [.inl 3, .inl 5]) (bs := []) (T := []) (l := []) (by decide) (by decide) (by decide +kernel) trivial trivial (yT_k (yV_c (c := 3) (by decide) (by decide) (by omega)) (yT_k (yV_c (c := 5) (by decide) (by decide) (by omega)) trivial))
                          · skip
                            rcases izc (a 2).toInt (7) with h14 | h14
                            · skip
                              exact zBox_L (n := 1000000) (as := [.inl 3, .inl 6]) (bs := []) (T := []) (l := []) (by decide) (by decide) (by decide +kernel) trivial trivial (yT_k (yV_c (c := 3) (by decide) (by decide) (by omega)) (yT_k (yV_c (c := 6) (by decide) (by decide) (by omega)) trivial))
                            · skip
                              rcases izc (a 2).toInt (8) with h15 | h15
                              · skip
                                exact zBox_L (n := 1000000) (as := [.inl 3, .inl 7]) (bs := []) (T := []) (l := []) (by decide) (by decide) (by decide +kernel) trivial trivial (yT_k (yV_c (c := 3) (by decide) (by decide) (by omega)) (yT_k (yV_c (c := 7) (by decide) (by decide) (by omega)) trivial))
                              · skip
                                rcases izc (a 2).toInt (9) with h16 | h16
                                · skip
                                  exact zBox_L (n := 1000000) (as := [.inl 3, .inl 8]) (bs := []) (T := []) (l := []) (by decide) (by decide) (by decide +kernel) trivial trivial (yT_k (yV_c (c := 3) (by decide) (by decide) (by omega)) (yT_k (yV_c (c := 8) (by decide) (by decide) (by omega)) trivial))
                                · skip
                                  rcases izc (a 2).toInt (10) with h17 | h17
                                  · skip
                                    exact zBox_L (n := 1000000) (as := [.inl 3, .inl 9]) (bs := []) (T := []) (l := []) (by decide) (by decide) (by decide +kernel) trivial trivial (yT_k (yV_c (c := 3) (by decide) (by decide) (by omega)) (yT_k (yV_c (c := 9) (by decide) (by decide) (by omega)) trivial))
                                  · skip
                                    rcases izc (a 2).toInt (11) with h18 | h18
                                    · skip
                                      exact zBox_L (n := 1000000) (as := [.inl 3, .inl 10]) (bs := []) (T := []) (l := []) (by decide) (by decide) (by decide +kernel) trivial trivial (yT_k (yV_c (c := 3) (by decide) (by decide) (by omega)) (yT_k (yV_c (c := 10) (by decide) (by decide) (by omega)) trivial))
                                    · skip
                                      rcases izc (a 2).toInt (12) with h19 | h19
                                      · skip
                                        exact zBox_L (n := 1000000) (as := [.inl 3, .inl 11]) (bs := []) (T := []) (l := []) (by decide) (by decide) (by decide +kernel) trivial trivial (yT_k (yV_c (c := 3) (by decide) (by decide) (by omega)) (yT_k (yV_c (c := 11) (by decide) (by decide) (by omega)) trivial))
                                      · skip
                                        rcases izc (a 2).toInt (13) with h20 | h20
                                        · skip
                                          exact zBox_L (n := 1000000) (as := [.inl 3, .inl 12]) (bs := []) (T := []) (l := []) (by decide) (by decide) (by decide +kernel) trivial trivial (yT_k (yV_c (c := 3) (by decide) (by decide) (by omega)) (yT_k (yV_c (c := 12) (by decide) (by decide) (by omega)) trivial))
                                        · skip
                                          rcases izc (a 2).toInt (14) with h21 | h21
                                          · skip
                                            exact zBox_L (n := 1000000) (as := [.inl 3, .inl 13]) (bs := []) (T := []) (l := []) (by decide) (by decide) (by decide +kernel) trivial trivial (yT_k (yV_c (c := 3) (by decide) (by decide) (by omega)) (yT_k (yV_c (c := 13) (by decide) (by decide) (by omega)) trivial))
                                          · skip
                                            rcases izc (a 2).toInt (15) with h22 | h22
                                            · skip
                                              exact zBox_L (n := 1000000) (as := [.inl 3, .inl 14]) (bs := []) (T := []) (l := []) (by decide) (by decide) (by decide +kernel) trivial trivial (yT_k (yV_c (c := 3) (by decide) (by decide) (by omega)) (yT_k (yV_c (c := 14) (by decide) (by decide) (by omega)) trivial))
                                            · skip
                                              rcases izc (a 2).toInt (16) with h23 | h23
                                              · skip
                                                exact zBox_L (n := 1000000) (as := [.inl 3, .inl 15]) (bs := []) (T := []) (l := []) (by decide) (by decide) (by decide +kernel) trivial trivial (yT_k (yV_c (c := 3) (by decide) (by decide) (by omega)) (yT_k (yV_c (c := 15) (by decide) (by decide) (by omega)) trivial))
                                              · skip
                                                rcases izc (a 2).toInt (17) with h24 | h24
                                                · skip
                                                  exact zBox_L (n := 1000000) (as := [.inl 3, .inl 16]) (bs := []) (T := []) (l := []) (by decide) (by decide) (by decide +kernel) trivial trivial (yT_k (yV_c (c := 3) (by decide) (by decide) (by omega)) (yT_k (yV_c (c := 16) (by decide) (by decide) (by omega)) trivial))
                                                · skip
                                                  rcases izc (a 2).toInt (18) with h25 | h25
                                                  · skip
                                                    exact zBox_L (n := 1000000) (as := [.inl 3, .inl 17]) (bs := []) (T := []) (l := []) (by decide) (by decide) (by decide +kernel) trivial trivial (yT_k (yV_c (c := 3) (by decide) (by decide) (by omega)) (yT_k (yV_c (c := 17) (by decide) (by decide) (by omega)) trivial))
                                                  · skip
                                                    rcases izc (a 2).toInt (19) with h26 | h26
                                                    · skip
                                                      exact zBox_L (n := 1000000) (as := [.inl 3, .inl 18]) (bs := []) (T := []) (l := []) (by decide) (by decide) (by decide +kernel) trivial trivial (yT_k (yV_c (c := 3) (by decide) (by decide) (by omega)) (yT_k (yV_c (c := 18) (by decide) (by decide) (by omega)) trivial))
                                                    · skip
                                                      rcases izc (a 2).toInt (20) with h27 | h27
                                                      · skip
                                                        exact zBox_L (n := 1000000) (as := [.inl 3, .inl 19]) (bs := []) (T := []) (l := []) (by decide) (by decide) (by decide +kernel) trivial trivial (yT_k (yV_c (c := 3) (by decide) (by decide) (by omega)) (yT_k (yV_c (c := 19) (by decide) (by decide) (by omega)) trivial))
                                                      · skip
                                                        rcases izc (a 2).toInt (21) with h28 | h28
                                                        · skip
                                                          exact zBox_L (n := 1000000) (as := [.inl 3, .inl 20]) (bs := []) (T := []) (l := []) (by decide) (by decide) (by decide +kernel) trivial trivial (yT_k (yV_c (c := 3) (by decide) (by decide) (by omega)) (yT_k (yV_c (c := 20) (by decide) (by decide) (by omega)) trivial))
                                                        · skip
                                                          rcases izc (a 2).toInt (22) with h29 | h29
                                                          · skip
                                                            exact zBox_L (n := 1000000) (as := [.inl 3, .inl 21]) (bs := []) (T := []) (l := []) (by decide) (by decide) (by decide +kernel) trivial trivial (yT_k (yV_c (c := 3) (by decide) (by decide) (by omega)) (yT_k (yV_c (c := 21) (by decide) (by decide) (by omega)) trivial))
                                                          · skip
                                                            rcases izc (a 2).toInt (23) with h30 | h30
                                                            · skip
                                                              exact zBox_L (n := 1000000) (as := [.inl 3, .inl 22]) (bs := []) (T := []) (l := []) (by decide) (by decide) (by decide +kernel) trivial trivial (yT_k (yV_c (c := 3) (by decide) (by decide) (by omega)) (yT_k (yV_c (c := 22) (by decide) (by decide) (by omega)) trivial))
                                                            · skip
                                                              rcases izc (a 2).toInt (24) with h31 | h31
                                                              · skip
                                                                exact zBox_L (n := 1000000) (as := [.inl 3, .inl 23]) (bs := []) (T := []) (l := []) (by decide) (by decide) (by decide +kernel) trivial trivial (yT_k (yV_c (c := 3) (by decide) (by decide) (by omega)) (yT_k (yV_c (c := 23) (by decide) (by decide) (by omega)) trivial))
                                                              · skip
                                                                rcases izc (a 2).toInt (25) with h32 | h32
                                                                · skip
                                                                  exact zBox_L (n := 1000000) (as := [.inl 3, .inl 24]) (bs := []) (T := []) (l := []) (by decide) (by decide) (by decide +kernel) trivial trivial (yT_k (yV_c (c := 3) (by decide) (by decide) (by omega)) (yT_k (yV_c (c := 24) (by decide) (by decide) (by omega)) trivial))
                                                                · skip
                                                                  rcases izc (a 2).toInt (26) with h33 | h33
                                                                  · skip
                                                                    exact zBox_L (n := 1000000) (as := [.inl 3, .inl 25]) (bs := []) (T := []) (l := []) (by decide) (by decide) (by decide +kernel) trivial trivial (yT_k (yV_c (c := 3) (by decide) (by decide) (by omega)) (yT_k (yV_c (c := 25) (by decide) (by decide) (by omega)) trivial))
                                                                  · skip
                                                                    rcases izc (a 2).toInt (27) with h34 | h34
                                                                    · skip
                                                                      exact zBox_L (n := 1000000) (as := [.inl 3, .inl 26]) (bs := []) (T := []) (l := []) (by decide) (by decide) (by decide +kernel) trivial trivial (yT_k (yV_c (c := 3) (by decide) (by decide) (by omega)) (yT_k (yV_c (c := 26) (by decide) (by decide) (by omega)) trivial))
                                                                    · skip
                                                                      rcases izc (a 2).toInt (28) with h35 | h35
                                                                      · skip
                                                                        exact zBox_L (n := 1000000) (as := [.inl 3, .inl 27]) (bs := []) (T := []) (l := []) (by decide) (by decide) (by decide +kernel) trivial trivial (yT_k (yV_c (c := 3) (by decide) (by decide) (by omega)) (yT_k (yV_c (c := 27) (by decide) (by decide) (by omega)) trivial))
                                                                      · skip
                                                                        rcases izc (a 2).toInt (29) with h36 | h36
                                                                        · skip
                                                                          exact zBox_L (n := 1000000) (as := [.inl 3, .inl 28]) (bs := []) (T := []) (l := []) (by decide) (by decide) (by decide +kernel) trivial trivial (yT_k (yV_c (c := 3) (by decide) (by decide) (by omega)) (yT_k (yV_c (c := 28) (by decide) (by decide) (by omega)) trivial))
                                                                        · skip
                                                                          rcases izc (a 2).toInt (30) with h37 | h37
                                                                          · skip
                                                                            exact zBox_L (n := 1000000) (as := [.inl 3, .inl 29]) (bs := []) (T := []) (l := []) (by decide) (by decide) (by decide +kernel) trivial trivial (yT_k (yV_c (c := 3) (by decide) (by decide) (by omega)) (yT_k (yV_c (c := 29) (by decide) (by decide) (by omega)) trivial))
                                                                          · skip
                                                                            rcases izc (a 2).toInt (31) with h38 | h38
                                                                            · skip
                                                                              exact zBox_L (n := 1000000) (as := [.inl 3, .inl 30]) (bs := []) (T := []) (l := []) (by decide) (by decide) (by decide +kernel) trivial trivial (yT_k (yV_c (c := 3) (by decide) (by decide) (by omega)) (yT_k (yV_c (c := 30) (by decide) (by decide) (by omega)) trivial))
                                                                            · skip
                                                                              rcases izc (a 2).toInt (32) with h39 | h39
                                                                              · skip
                                                                                exact zBox_L (n := 1000000) (as := [.inl 3, .inl 31]) (bs := []) (T := []) (l := []) (by decide) (by decide) (by decide +kernel) trivial trivial (yT_k (yV_c (c := 3) (by decide) (by decide) (by omega)) (yT_k (yV_c (c := 31) (by decide) (by decide) (by omega)) trivial))
                                                                              · skip
                                                                                rcases izc (a 2).toInt (33) with h40 | h40
                                                                                · skip
                                                                                  exact zBox_L (n := 1000000) (as := [.inl 3, .inl 32]) (bs := []) (T := []) (l := []) (by decide) (by decide) (by decide +kernel) trivial trivial (yT_k (yV_c (c := 3) (by decide) (by decide) (by omega)) (yT_k (yV_c (c := 32) (by decide) (by decide) (by omega)) trivial))
                                                                                · skip
                                                                                  rcases izc (a 2).toInt (34) with h41 | h41
                                                                                  · skip
                                                                                    exact zBox_L (n := 1000000) (as := [.inl 3, .inl 33]) (bs := []) (T := []) (l := []) (by decide) (by decide) (by decide +kernel) trivial trivial (yT_k (yV_c (c := 3) (by decide) (by decide) (by omega)) (yT_k (yV_c (c := 33) (by decide) (by decide) (by omega)) trivial))
                                                                                  · skip
                                                                                    rcases izc (a 2).toInt (35) with h42 | h42
                                                                                    · skip
                                                                                      exact zBox_L (n := 1000000) (as := [.inl 3, .inl 34]) (bs := []) (T := []) (l := []) (by decide) (by decide) (by decide +kernel) trivial trivial (yT_k (yV_c (c := 3) (by decide) (by decide) (by omega)) (yT_k (yV_c (c := 34) (by decide) (by decide) (by omega)) trivial))
                                                                                    · skip
                                                                                      rcases izc (a 2).toInt (36) with h43 | h43
                                                                                      · skip
                                                                                        exact zBox_L (n := 1000000) (as := [.inl 3, .inl 35]) (bs := []) (T := []) (l := []) (by decide) (by decide) (by decide +kernel) trivial trivial (yT_k (yV_c (c := 3) (by decide) (by decide) (by omega)) (yT_k (yV_c (c := 35) (by decide) (by decide) (by omega)) trivial))
                                                                                      · skip
                                                                                        rcases izc (a 2).toInt (37) with h44 | h44
                                                                                        · skip
                                                                                          exact zBox_L (n := 1000000) (as := [.inl 3, .inl 36]) (bs := []) (T := []) (l := []) (by decide) (by decide) (by decide +kernel) trivial trivial (yT_k (yV_c (c := 3) (by decide) (by decide) (by omega)) (yT_k (yV_c (c := 36) (by decide) (by decide) (by omega)) trivial))
                                                                                        · skip
                                                                                          rcases izc (a 2).toInt (38) with h45 | h45
                                                                                          · skip
                                                                                            exact zBox_L (n := 1000000) (as := [.inl 3, .inl 37]) (bs := []) (T := []) (l := []) (by decide) (by decide) (by decide +kernel) trivial trivial (yT_k (yV_c (c := 3) (by decide) (by decide) (by omega)) (yT_k (yV_c (c := 37) (by decide) (by decide) (by omega)) trivial))
                                                                                          · skip
                                                                                            rcases izc (a 2).toInt (39) with h46 | h46
                                                                                            · skip
                                                                                              exact zBox_L (n := 1000000) (as := [.inl 3, .inl 38]) (bs := []) (T := []) (l := []) (by decide) (by decide) (by decide +kernel) trivial trivial (yT_k (yV_c (c := 3) (by decide) (by decide) (by omega)) (yT_k (yV_c (c := 38) (by decide) (by decide) (by omega)) trivial))
                                                                                            · skip
                                                                                              rcases izc (a 2).toInt (40) with h47 | h47
                                                                                              · skip
                                                                                                exact zBox_L (n := 1000000) (as := [.inl 3, .inl 39]) (bs := []) (T := []) (l := []) (by decide) (by decide) (by decide +kernel) trivial trivial (yT_k (yV_c (c := 3) (by decide) (by decide) (by omega)) (yT_k (yV_c (c := 39) (by decide) (by decide) (by omega)) trivial))
                                                                                              · skip
                                                                                                rcases izc (a 2).toInt (41) with h48 | h48
                                                                                                · skip
                                                                                                  exact zBox_L (n := 1000000) (as := [.inl 3, .inl 40]) (bs := []) (T := []) (l := []) (by decide) (by decide) (by decide +kernel) trivial trivial (yT_k (yV_c (c := 3) (by decide) (by decide) (by omega)) (yT_k (yV_c (c := 40) (by decide) (by decide) (by omega)) trivial))
                                                                                                · skip
                                                                                                  exact zBox_L (n := 1000000) (as := [.inl 3, .inr (.inr (.inr (.inl [(1, [0])])))]) (bs := [(41, 2147483647)]) (T := []) (l := [(a 2).toInt]) (by decide) (by decide) (by decide +kernel) ⟨⟨by omega, by omega⟩, trivial⟩ trivial (yT_k (yV_c (c := 3) (by decide) (by decide) (by omega)) (yT_k (yV_v (j := 0) rfl) trivial))
            · skip
              rcases izc (a 1).toInt (5) with h7 | h7
              · skip
                exact zBox_L (n := 1000000) (as := [.inl 4, .inr (.inr (.inr (.inl [(1, [0])])))]) (bs := [(-2147483648, 2147483647)]) (T := []) (l := [(a 2).toInt]) (by decide) (by decide) (by decide +kernel) ⟨⟨by omega, by omega⟩, trivial⟩ trivial (yT_k (yV_c (c := 4) (by decide) (by decide) (by omega)) (yT_k (yV_v (j := 0) rfl) trivial))
              · skip
                rcases izc (a 1).toInt (6) with h8 | h8
                · skip
                  exact zBox_L (n := 1000000) (as := [.inl 5, .inr (.inr (.inr (.inl [(1, [0])])))]) (bs := [(-2147483648, 2147483647)]) (T := []) (l := [(a 2).toInt]) (by decide) (by decide) (by decide +kernel) ⟨⟨by omega, by omega⟩, trivial⟩ trivial (yT_k (yV_c (c := 5) (by decide) (by decide) (by omega)) (yT_k (yV_v (j := 0) rfl) trivial))
                · skip
                  rcases izc (a 1).toInt (7) with h9 | h9
                  · skip
                    exact zBox_L (n := 1000000) (as := [.inl 6, .inr (.inr (.inr (.inl [(1, [0])])))]) (bs := [(-2147483648, 2147483647)]) (T := []) (l := [(a 2).toInt]) (by decide) (by decide) (by decide +kernel) ⟨⟨by omega, by omega⟩, trivial⟩ trivial (yT_k (yV_c (c := 6) (by decide) (by decide) (by omega)) (yT_k (yV_v (j := 0) rfl) trivial))
                  · skip
                    rcases izc (a 1).toInt (8) with h10 | h10
                    · skip
                      exact zBox_L (n := 1000000) (as := [.inl 7, .inr (.inr (.inr (.inl [(1, [0])])))]) (bs := [(-2147483648, 2147483647)]) (T := []) (l := [(a 2).toInt]) (by decide) (by decide) (by decide +kernel) ⟨⟨by omega, by omega⟩, trivial⟩ trivial (yT_k (yV_c (c := 7) (by decide) (by decide) (by omega)) (yT_k (yV_v (j := 0) rfl) trivial))
                    · skip
                      rcases izc (a 1).toInt (9) with h11 | h11
                      · skip
                        exact zBox_L (n := 1000000) (as := [.inl 8, .inr (.inr (.inr (.inl [(1, [0])])))]) (bs := [(-2147483648, 2147483647)]) (T := []) (l := [(a 2).toInt]) (by decide) (by decide) (by decide +kernel) ⟨⟨by omega, by omega⟩, trivial⟩ trivial (yT_k (yV_c (c := 8) (by decide) (by decide) (by omega)) (yT_k (yV_v (j := 0) rfl) trivial))
                      · skip
                        rcases izc (a 1).toInt (10) with h12 | h12
                        · skip
                          exact zBox_L (n := 1000000) (as := [.inl 9, .inr (.inr (.inr (.inl [(1, [0])])))]) (bs := [(-2147483648, 2147483647)]) (T := []) (l := [(a 2).toInt]) (by decide) (by decide) (by decide +kernel) ⟨⟨by omega, by omega⟩, trivial⟩ trivial (yT_k (yV_c (c := 9) (by decide) (by decide) (by omega)) (yT_k (yV_v (j := 0) rfl) trivial))
                        · skip
                          rcases izc (a 1).toInt (11) with h13 | h13
                          · skip
                            exact zBox_L (n := 1000000) (as := [.inl 10, .inr (.inr (.inr (.inl [(1, [0])])))]) (bs := [(-2147483648, 2147483647)]) (T := []) (l := [(a 2).toInt]) (by decide) (by decide) (by decide +kernel) ⟨⟨by omega, by omega⟩, trivial⟩ trivial (yT_k (yV_c (c := 10) (by decide) (by decide) (by omega)) (yT_k (yV_v (j := 0) rfl) trivial))
                          · skip
                            rcases izc (a 1).toInt (12) with h14 | h14
                            · skip
                              exact zBox_L (n := 1000000) (as := [.inl 11, .inr (.inr (.inr (.inl [(1, [0])])))]) (bs := [(-2147483648, 2147483647)]) (T := []) (l := [(a 2).toInt]) (by decide) (by decide) (by decide +kernel) ⟨⟨by omega, by omega⟩, trivial⟩ trivial (yT_k (yV_c (c := 11) (by decide) (by decide) (by omega)) (yT_k (yV_v (j := 0) rfl) trivial))
                            · skip
                              rcases izc (a 1).toInt (13) with h15 | h15
                              · skip
                                exact zBox_L (n := 1000000) (as := [.inl 12, .inr (.inr (.inr (.inl [(1, [0])])))]) (bs := [(-2147483648, 2147483647)]) (T := []) (l := [(a 2).toInt]) (by decide) (by decide) (by decide +kernel) ⟨⟨by omega, by omega⟩, trivial⟩ trivial (yT_k (yV_c (c := 12) (by decide) (by decide) (by omega)) (yT_k (yV_v (j := 0) rfl) trivial))
                              · skip
                                rcases izc (a 1).toInt (14) with h16 | h16
                                · skip
                                  exact zBox_L (n := 1000000) (as := [.inl 13, .inr (.inr (.inr (.inl [(1, [0])])))]) (bs := [(-2147483648, 2147483647)]) (T := []) (l := [(a 2).toInt]) (by decide) (by decide) (by decide +kernel) ⟨⟨by omega, by omega⟩, trivial⟩ trivial (yT_k (yV_c (c := 13) (by decide) (by decide) (by omega)) (yT_k (yV_v (j := 0) rfl) trivial))
                                · skip
                                  rcases izc (a 1).toInt (15) with h17 | h17
                                  · skip
                                    exact zBox_L (n := 1000000) (as := [.inl 14, .inr (.inr (.inr (.inl [(1, [0])])))]) (bs := [(-2147483648, 2147483647)]) (T := []) (l := [(a 2).toInt]) (by decide) (by decide) (by decide +kernel) ⟨⟨by omega, by omega⟩, trivial⟩ trivial (yT_k (yV_c (c := 14) (by decide) (by decide) (by omega)) (yT_k (yV_v (j := 0) rfl) trivial))
                                  · skip
                                    rcases izc (a 1).toInt (16) with h18 | h18
                                    · skip
                                      exact zBox_L (n := 1000000) (as := [.inl 15, .inr (.inr (.inr (.inl [(1, [0])])))]) (bs := [(-2147483648, 2147483647)]) (T := []) (l := [(a 2).toInt]) (by decide) (by decide) (by decide +kernel) ⟨⟨by omega, by omega⟩, trivial⟩ trivial (yT_k (yV_c (c := 15) (by decide) (by decide) (by omega)) (yT_k (yV_v (j := 0) rfl) trivial))
                                    · skip
                                      rcases izc (a 1).toInt (17) with h19 | h19
                                      · skip
                                        exact zBox_L (n := 1000000) (as := [.inl 16, .inr (.inr (.inr (.inl [(1, [0])])))]) (bs := [(-2147483648, 2147483647)]) (T := []) (l := [(a 2).toInt]) (by decide) (by decide) (by decide +kernel) ⟨⟨by omega, by omega⟩, trivial⟩ trivial (yT_k (yV_c (c := 16) (by decide) (by decide) (by omega)) (yT_k (yV_v (j := 0) rfl) trivial))
                                      · skip
                                        rcases izc (a 1).toInt (18) with h20 | h20
                                        · skip
                                          exact zBox_L (n := 1000000) (as := [.inl 17, .inr (.inr (.inr (.inl [(1, [0])])))]) (bs := [(-2147483648, 2147483647)]) (T := []) (l := [(a 2).toInt]) (by decide) (by decide) (by decide +kernel) ⟨⟨by omega, by omega⟩, trivial⟩ trivial (yT_k (yV_c (c := 17) (by decide) (by decide) (by omega)) (yT_k (yV_v (j := 0) rfl) trivial))
                                        · skip
                                          rcases izc (a 1).toInt (19) with h21 | h21
                                          · skip
                                            exact zBox_L (n := 1000000) (as := [.inl 18, .inr (.inr (.inr (.inl [(1, [0])])))]) (bs := [(-2147483648, 2147483647)]) (T := []) (l := [(a 2).toInt]) (by decide) (by decide) (by decide +kernel) ⟨⟨by omega, by omega⟩, trivial⟩ trivial (yT_k (yV_c (c := 18) (by decide) (by decide) (by omega)) (yT_k (yV_v (j := 0) rfl) trivial))
                                          · skip
                                            rcases izc (a 1).toInt (20) with h22 | h22
                                            · skip
                                              exact zBox_L (n := 1000000) (as := [.inl 19, .inr (.inr (.inr (.inl [(1, [0])])))]) (bs := [(-2147483648, 2147483647)]) (T := []) (l := [(a 2).toInt]) (by decide) (by decide) (by decide +kernel) ⟨⟨by omega, by omega⟩, trivial⟩ trivial (yT_k (yV_c (c := 19) (by decide) (by decide) (by omega)) (yT_k (yV_v (j := 0) rfl) trivial))
                                            · skip
                                              rcases izc (a 1).toInt (21) with h23 | h23
                                              · skip
                                                exact zBox_L (n := 1000000) (as := [.inl 20, .inr (.inr (.inr (.inl [(1, [0])])))]) (bs := [(-2147483648, 2147483647)]) (T := []) (l := [(a 2).toInt]) (by decide) (by decide) (by decide +kernel) ⟨⟨by omega, by omega⟩, trivial⟩ trivial (yT_k (yV_c (c := 20) (by decide) (by decide) (by omega)) (yT_k (yV_v (j := 0) rfl) trivial))
                                              · skip
                                                rcases izc (a 1).toInt (22) with h24 | h24
                                                · skip
                                                  exact zBox_L (n := 1000000) (as := [.inl 21, .inr (.inr (.inr (.inl [(1, [0])])))]) (bs := [(-2147483648, 2147483647)]) (T := []) (l := [(a 2).toInt]) (by decide) (by decide) (by decide +kernel) ⟨⟨by omega, by omega⟩, trivial⟩ trivial (yT_k (yV_c (c := 21) (by decide) (by decide) (by omega)) (yT_k (yV_v (j := 0) rfl) trivial))
                                                · skip
                                                  rcases izc (a 1).toInt (23) with h25 | h25
                                                  · skip
                                                    exact zBox_L (n := 1000000) (as := [.inl 22, .inr (.inr (.inr (.inl [(1, [0])])))]) (bs := [(-2147483648, 2147483647)]) (T := []) (l := [(a 2).toInt]) (by decide) (by decide) (by decide +kernel) ⟨⟨by omega, by omega⟩, trivial⟩ trivial (yT_k (yV_c (c := 22) (by decide) (by decide) (by omega)) (yT_k (yV_v (j := 0) rfl) trivial))
                                                  · skip
                                                    rcases izc (a 1).toInt (24) with h26 | h26
                                                    · skip
                                                      exact zBox_L (n := 1000000) (as := [.inl 23, .inr (.inr (.inr (.inl [(1, [0])])))]) (bs := [(-2147483648, 2147483647)]) (T := []) (l := [(a 2).toInt]) (by decide) (by decide) (by decide +kernel) ⟨⟨by omega, by omega⟩, trivial⟩ trivial (yT_k (yV_c (c := 23) (by decide) (by decide) (by omega)) (yT_k (yV_v (j := 0) rfl) trivial))
                                                    · skip
                                                      rcases izc (a 1).toInt (25) with h27 | h27
                                                      · skip
                                                        exact zBox_L (n := 1000000) (as := [.inl 24, .inr (.inr (.inr (.inl [(1, [0])])))]) (bs := [(-2147483648, 2147483647)]) (T := []) (l := [(a 2).toInt]) (by decide) (by decide) (by decide +kernel) ⟨⟨by omega, by omega⟩, trivial⟩ trivial (yT_k (yV_c (c := 24) (by decide) (by decide) (by omega)) (yT_k (yV_v (j := 0) rfl) trivial))
                                                      · skip
                                                        rcases izc (a 1).toInt (26) with h28 | h28
                                                        · skip
                                                          exact zBox_L (n := 1000000) (as := [.inl 25, .inr (.inr (.inr (.inl [(1, [0])])))]) (bs := [(-2147483648, 2147483647)]) (T := []) (l := [(a 2).toInt]) (by decide) (by decide) (by decide +kernel) ⟨⟨by omega, by omega⟩, trivial⟩ trivial (yT_k (yV_c (c := 25) (by decide) (by decide) (by omega)) (yT_k (yV_v (j := 0) rfl) trivial))
                                                        · skip
                                                          rcases izc (a 1).toInt (27) with h29 | h29
                                                          · skip
                                                            exact zBox_L (n := 1000000) (as := [.inl 26, .inr (.inr (.inr (.inl [(1, [0])])))]) (bs := [(-2147483648, 2147483647)]) (T := []) (l := [(a 2).toInt]) (by decide) (by decide) (by decide +kernel) ⟨⟨by omega, by omega⟩, trivial⟩ trivial (yT_k (yV_c (c := 26) (by decide) (by decide) (by omega)) (yT_k (yV_v (j := 0) rfl) trivial))
                                                          · skip
                                                            rcases izc (a 1).toInt (28) with h30 | h30
                                                            · skip
                                                              exact zBox_L (n := 1000000) (as := [.inl 27, .inr (.inr (.inr (.inl [(1, [0])])))]) (bs := [(-2147483648, 2147483647)]) (T := []) (l := [(a 2).toInt]) (by decide) (by decide) (by decide +kernel) ⟨⟨by omega, by omega⟩, trivial⟩ trivial (yT_k (yV_c (c := 27) (by decide) (by decide) (by omega)) (yT_k (yV_v (j := 0) rfl) trivial))
                                                            · skip
                                                              rcases izc (a 1).toInt (29) with h31 | h31
                                                              · skip
                                                                exact zBox_L (n := 1000000) (as := [.inl 28, .inr (.inr (.inr (.inl [(1, [0])])))]) (bs := [(-2147483648, 2147483647)]) (T := []) (l := [(a 2).toInt]) (by decide) (by decide) (by decide +kernel) ⟨⟨by omega, by omega⟩, trivial⟩ trivial (yT_k (yV_c (c := 28) (by decide) (by decide) (by omega)) (yT_k (yV_v (j := 0) rfl) trivial))
                                                              · skip
                                                                rcases izc (a 1).toInt (30) with h32 | h32
                                                                · skip
                                                                  exact zBox_L (n := 1000000) (as := [.inl 29, .inr (.inr (.inr (.inl [(1, [0])])))]) (bs := [(-2147483648, 2147483647)]) (T := []) (l := [(a 2).toInt]) (by decide) (by decide) (by decide +kernel) ⟨⟨by omega, by omega⟩, trivial⟩ trivial (yT_k (yV_c (c := 29) (by decide) (by decide) (by omega)) (yT_k (yV_v (j := 0) rfl) trivial))
                                                                · skip
                                                                  rcases izc (a 1).toInt (31) with h33 | h33
                                                                  · skip
                                                                    exact zBox_L (n := 1000000) (as := [.inl 30, .inr (.inr (.inr (.inl [(1, [0])])))]) (bs := [(-2147483648, 2147483647)]) (T := []) (l := [(a 2).toInt]) (by decide) (by decide) (by decide +kernel) ⟨⟨by omega, by omega⟩, trivial⟩ trivial (yT_k (yV_c (c := 30) (by decide) (by decide) (by omega)) (yT_k (yV_v (j := 0) rfl) trivial))
                                                                  · skip
                                                                    rcases izc (a 1).toInt (32) with h34 | h34
                                                                    · skip
                                                                      exact zBox_L (n := 1000000) (as := [.inl 31, .inr (.inr (.inr (.inl [(1, [0])])))]) (bs := [(-2147483648, 2147483647)]) (T := []) (l := [(a 2).toInt]) (by decide) (by decide) (by decide +kernel) ⟨⟨by omega, by omega⟩, trivial⟩ trivial (yT_k (yV_c (c := 31) (by decide) (by decide) (by omega)) (yT_k (yV_v (j := 0) rfl) trivial))
                                                                    · skip
                                                                      rcases izc (a 1).toInt (33) with h35 | h35
                                                                      · skip
                                                                        exact zBox_L (n := 1000000) (as := [.inl 32, .inr (.inr (.inr (.inl [(1, [0])])))]) (bs := [(-2147483648, 2147483647)]) (T := []) (l := [(a 2).toInt]) (by decide) (by decide) (by decide +kernel) ⟨⟨by omega, by omega⟩, trivial⟩ trivial (yT_k (yV_c (c := 32) (by decide) (by decide) (by omega)) (yT_k (yV_v (j := 0) rfl) trivial))
                                                                      · skip
                                                                        rcases izc (a 1).toInt (34) with h36 | h36
                                                                        · skip
                                                                          exact zBox_L (n := 1000000) (as := [.inl 33, .inr (.inr (.inr (.inl [(1, [0])])))]) (bs := [(-2147483648, 2147483647)]) (T := []) (l := [(a 2).toInt]) (by decide) (by decide) (by decide +kernel) ⟨⟨by omega, by omega⟩, trivial⟩ trivial (yT_k (yV_c (c := 33) (by decide) (by decide) (by omega)) (yT_k (yV_v (j := 0) rfl) trivial))
                                                                        · skip
                                                                          rcases izc (a 1).toInt (35) with h37 | h37
                                                                          · skip
                                                                            exact zBox_L (n := 1000000) (as := [.inl 34, .inr (.inr (.inr (.inl [(1, [0])])))]) (bs := [(-2147483648, 2147483647)]) (T := []) (l := [(a 2).toInt]) (by decide) (by decide) (by decide +kernel) ⟨⟨by omega, by omega⟩, trivial⟩ trivial (yT_k (yV_c (c := 34) (by decide) (by decide) (by omega)) (yT_k (yV_v (j := 0) rfl) trivial))
                                                                          · skip
                                                                            rcases izc (a 1).toInt (36) with h38 | h38
                                                                            · skip
                                                                              exact zBox_L (n := 1000000) (as := [.inl 35, .inr (.inr (.inr (.inl [(1, [0])])))]) (bs := [(-2147483648, 2147483647)]) (T := []) (l := [(a 2).toInt]) (by decide) (by decide) (by decide +kernel) ⟨⟨by omega, by omega⟩, trivial⟩ trivial (yT_k (yV_c (c := 35) (by decide) (by decide) (by omega)) (yT_k (yV_v (j := 0) rfl) trivial))
                                                                            · skip
                                                                              rcases izc (a 1).toInt (37) with h39 | h39
                                                                              · skip
                                                                                exact zBox_L (n := 1000000) (as := [.inl 36, .inr (.inr (.inr (.inl [(1, [0])])))]) (bs := [(-2147483648, 2147483647)]) (T := []) (l := [(a 2).toInt]) (by decide) (by decide) (by decide +kernel) ⟨⟨by omega, by omega⟩, trivial⟩ trivial (yT_k (yV_c (c := 36) (by decide) (by decide) (by omega)) (yT_k (yV_v (j := 0) rfl) trivial))
                                                                              · skip
                                                                                rcases izc (a 1).toInt (38) with h40 | h40
                                                                                · skip
                                                                                  exact zBox_L (n := 1000000) (as := [.inl 37, .inr (.inr (.inr (.inl [(1, [0])])))]) (bs := [(-2147483648, 2147483647)]) (T := []) (l := [(a 2).toInt]) (by decide) (by decide) (by decide +kernel) ⟨⟨by omega, by omega⟩, trivial⟩ trivial (yT_k (yV_c (c := 37) (by decide) (by decide) (by omega)) (yT_k (yV_v (j := 0) rfl) trivial))
                                                                                · skip
                                                                                  rcases izc (a 1).toInt (39) with h41 | h41
                                                                                  · skip
                                                                                    exact zBox_L (n := 1000000) (as := [.inl 38, .inr (.inr (.inr (.inl [(1, [0])])))]) (bs := [(-2147483648, 2147483647)]) (T := []) (l := [(a 2).toInt]) (by decide) (by decide) (by decide +kernel) ⟨⟨by omega, by omega⟩, trivial⟩ trivial (yT_k (yV_c (c := 38) (by decide) (by decide) (by omega)) (yT_k (yV_v (j := 0) rfl) trivial))
                                                                                  · skip
                                                                                    exact zBox_L (n := 1000000) (as := [.inl 39, .inr (.inr (.inr (.inl [(1, [0])])))]) (bs := [(-2147483648, 2147483647)]) (T := []) (l := [(a 2).toInt]) (by decide) (by decide) (by decide +kernel) ⟨⟨by omega, by omega⟩, trivial⟩ trivial (yT_k (yV_c (c := 39) (by decide) (by decide) (by omega)) (yT_k (yV_v (j := 0) rfl) trivial))
    · skip
      exact zBox_L (n := 1000000) (as := [.inr (.inr (.inr (.inl [(1, [0])]))), .inr (.inr (.inr (.inl [(1, [1])])))]) (bs := [(40, 2147483647), (-2147483648, 2147483647)]) (T := []) (l := [(a 1).toInt, (a 2).toInt]) (by decide) (by decide) (by decide +kernel) ⟨⟨by omega, by omega⟩, ⟨by omega, by omega⟩, trivial⟩ trivial (yT_k (yV_v (j := 0) rfl) (yT_k (yV_v (j := 1) rfl) trivial))
