-- the law (by program: wip/gen/gen_law.py)
set_option maxRecDepth 4000 in
theorem sg_L_law_16 {d n : Nat} {xs : Nat → Int32} {σ : ST}  {post : Option AV → ST → Prop} (K : Ev (some (n, xs)) (d + 8) m_L_law 18 [some (vR 63 0), some (vR 0 0), some (vR 11 0), some (vI (0 : Int32))] [] σ post) : Ev (some (n, xs)) (d + 8) m_L_law 16 [some (vR 63 0), some (vR 0 0), some (vR 11 0), none] [] σ post := by
  refine ev_iconst (v := 0) d_L_law_16 (by decide) ?_
  refine ev_istore_n (L' := [some (vR 63 0), some (vR 0 0), some (vR 11 0), some (vI (0 : Int32))]) d_L_law_17 rfl (by decide) rfl ?_
  exact K
set_option maxRecDepth 4000 in
theorem sg_L_law_18 {d n : Nat} {xs : Nat → Int32} {σ : ST} {a3 : Int32} {post : Option AV → ST → Prop} (K : ((((Int32.ofNat n) - (6 : Int32)) < a3) → (post (some (vI (1 : Int32))) σ)) ∧ (¬ (((Int32.ofNat n) - (6 : Int32)) < a3) → ((vp_in a3 n) ∧ ((((xs (a3.toNatClampNeg)) &&& (31 : Int32)) = 0 → (Ev (some (n, xs)) (d + 8) m_L_law 176 [some (vR 63 0), some (vR 0 0), some (vR 11 0), some (vI a3)] [] σ post)) ∧ (¬ ((xs (a3.toNatClampNeg)) &&& (31 : Int32)) = 0 → ((((xs (a3.toNatClampNeg)) &&& (31 : Int32)) = 1 → (Ev (some (n, xs)) (d + 8) m_L_law 199 [some (vR 63 0), some (vR 0 0), some (vR 11 0), some (vI a3)] [] σ post)) ∧ (¬ ((xs (a3.toNatClampNeg)) &&& (31 : Int32)) = 1 → ((((xs (a3.toNatClampNeg)) &&& (31 : Int32)) = 2 → (Ev (some (n, xs)) (d + 8) m_L_law 212 [some (vR 63 0), some (vR 0 0), some (vR 11 0), some (vI a3)] [] σ post)) ∧ (¬ ((xs (a3.toNatClampNeg)) &&& (31 : Int32)) = 2 → ((((xs (a3.toNatClampNeg)) &&& (31 : Int32)) = 3 → (Ev (some (n, xs)) (d + 8) m_L_law 225 [some (vR 63 0), some (vR 0 0), some (vR 11 0), some (vI a3)] [] σ post)) ∧ (¬ ((xs (a3.toNatClampNeg)) &&& (31 : Int32)) = 3 → ((((xs (a3.toNatClampNeg)) &&& (31 : Int32)) = 4 → (Ev (some (n, xs)) (d + 8) m_L_law 258 [some (vR 63 0), some (vR 0 0), some (vR 11 0), some (vI a3)] [] σ post)) ∧ (¬ ((xs (a3.toNatClampNeg)) &&& (31 : Int32)) = 4 → ((((xs (a3.toNatClampNeg)) &&& (31 : Int32)) = 5 → (Ev (some (n, xs)) (d + 8) m_L_law 301 [some (vR 63 0), some (vR 0 0), some (vR 11 0), some (vI a3)] [] σ post)) ∧ (¬ ((xs (a3.toNatClampNeg)) &&& (31 : Int32)) = 5 → ((((xs (a3.toNatClampNeg)) &&& (31 : Int32)) = 6 → (Ev (some (n, xs)) (d + 8) m_L_law 334 [some (vR 63 0), some (vR 0 0), some (vR 11 0), some (vI a3)] [] σ post)) ∧ (¬ ((xs (a3.toNatClampNeg)) &&& (31 : Int32)) = 6 → ((((xs (a3.toNatClampNeg)) &&& (31 : Int32)) = 7 → (Ev (some (n, xs)) (d + 8) m_L_law 377 [some (vR 63 0), some (vR 0 0), some (vR 11 0), some (vI a3)] [] σ post)) ∧ (¬ ((xs (a3.toNatClampNeg)) &&& (31 : Int32)) = 7 → ((((xs (a3.toNatClampNeg)) &&& (31 : Int32)) = 8 → (Ev (some (n, xs)) (d + 8) m_L_law 410 [some (vR 63 0), some (vR 0 0), some (vR 11 0), some (vI a3)] [] σ post)) ∧ (¬ ((xs (a3.toNatClampNeg)) &&& (31 : Int32)) = 8 → ((((xs (a3.toNatClampNeg)) &&& (31 : Int32)) = 9 → (Ev (some (n, xs)) (d + 8) m_L_law 453 [some (vR 63 0), some (vR 0 0), some (vR 11 0), some (vI a3)] [] σ post)) ∧ (¬ ((xs (a3.toNatClampNeg)) &&& (31 : Int32)) = 9 → ((((xs (a3.toNatClampNeg)) &&& (31 : Int32)) = 10 → (Ev (some (n, xs)) (d + 8) m_L_law 486 [some (vR 63 0), some (vR 0 0), some (vR 11 0), some (vI a3)] [] σ post)) ∧ (¬ ((xs (a3.toNatClampNeg)) &&& (31 : Int32)) = 10 → ((((xs (a3.toNatClampNeg)) &&& (31 : Int32)) = 11 → (Ev (some (n, xs)) (d + 8) m_L_law 519 [some (vR 63 0), some (vR 0 0), some (vR 11 0), some (vI a3)] [] σ post)) ∧ (¬ ((xs (a3.toNatClampNeg)) &&& (31 : Int32)) = 11 → ((((xs (a3.toNatClampNeg)) &&& (31 : Int32)) = 12 → (Ev (some (n, xs)) (d + 8) m_L_law 562 [some (vR 63 0), some (vR 0 0), some (vR 11 0), some (vI a3)] [] σ post)) ∧ (¬ ((xs (a3.toNatClampNeg)) &&& (31 : Int32)) = 12 → ((((xs (a3.toNatClampNeg)) &&& (31 : Int32)) = 13 → (Ev (some (n, xs)) (d + 8) m_L_law 615 [some (vR 63 0), some (vR 0 0), some (vR 11 0), some (vI a3)] [] σ post)) ∧ (¬ ((xs (a3.toNatClampNeg)) &&& (31 : Int32)) = 13 → ((((xs (a3.toNatClampNeg)) &&& (31 : Int32)) = 14 → (Ev (some (n, xs)) (d + 8) m_L_law 658 [some (vR 63 0), some (vR 0 0), some (vR 11 0), some (vI a3)] [] σ post)) ∧ (¬ ((xs (a3.toNatClampNeg)) &&& (31 : Int32)) = 14 → ((((xs (a3.toNatClampNeg)) &&& (31 : Int32)) = 15 → (Ev (some (n, xs)) (d + 8) m_L_law 701 [some (vR 63 0), some (vR 0 0), some (vR 11 0), some (vI a3)] [] σ post)) ∧ (¬ ((xs (a3.toNatClampNeg)) &&& (31 : Int32)) = 15 → ((((xs (a3.toNatClampNeg)) &&& (31 : Int32)) = 16 → (Ev (some (n, xs)) (d + 8) m_L_law 754 [some (vR 63 0), some (vR 0 0), some (vR 11 0), some (vI a3)] [] σ post)) ∧ (¬ ((xs (a3.toNatClampNeg)) &&& (31 : Int32)) = 16 → ((((xs (a3.toNatClampNeg)) &&& (31 : Int32)) = 17 → (Ev (some (n, xs)) (d + 8) m_L_law 797 [some (vR 63 0), some (vR 0 0), some (vR 11 0), some (vI a3)] [] σ post)) ∧ (¬ ((xs (a3.toNatClampNeg)) &&& (31 : Int32)) = 17 → ((((xs (a3.toNatClampNeg)) &&& (31 : Int32)) = 18 → (Ev (some (n, xs)) (d + 8) m_L_law 830 [some (vR 63 0), some (vR 0 0), some (vR 11 0), some (vI a3)] [] σ post)) ∧ (¬ ((xs (a3.toNatClampNeg)) &&& (31 : Int32)) = 18 → ((((xs (a3.toNatClampNeg)) &&& (31 : Int32)) = 19 → (Ev (some (n, xs)) (d + 8) m_L_law 873 [some (vR 63 0), some (vR 0 0), some (vR 11 0), some (vI a3)] [] σ post)) ∧ (¬ ((xs (a3.toNatClampNeg)) &&& (31 : Int32)) = 19 → ((((xs (a3.toNatClampNeg)) &&& (31 : Int32)) = 20 → (Ev (some (n, xs)) (d + 8) m_L_law 886 [some (vR 63 0), some (vR 0 0), some (vR 11 0), some (vI a3)] [] σ post)) ∧ (¬ ((xs (a3.toNatClampNeg)) &&& (31 : Int32)) = 20 → ((((xs (a3.toNatClampNeg)) &&& (31 : Int32)) = 21 → (Ev (some (n, xs)) (d + 8) m_L_law 919 [some (vR 63 0), some (vR 0 0), some (vR 11 0), some (vI a3)] [] σ post)) ∧ (¬ ((xs (a3.toNatClampNeg)) &&& (31 : Int32)) = 21 → ((((xs (a3.toNatClampNeg)) &&& (31 : Int32)) = 22 → (Ev (some (n, xs)) (d + 8) m_L_law 932 [some (vR 63 0), some (vR 0 0), some (vR 11 0), some (vI a3)] [] σ post)) ∧ (¬ ((xs (a3.toNatClampNeg)) &&& (31 : Int32)) = 22 → ((((xs (a3.toNatClampNeg)) &&& (31 : Int32)) = 23 → (Ev (some (n, xs)) (d + 8) m_L_law 976 [some (vR 63 0), some (vR 0 0), some (vR 11 0), some (vI a3)] [] σ post)) ∧ (¬ ((xs (a3.toNatClampNeg)) &&& (31 : Int32)) = 23 → ((((xs (a3.toNatClampNeg)) &&& (31 : Int32)) = 24 → (Ev (some (n, xs)) (d + 8) m_L_law 1010 [some (vR 63 0), some (vR 0 0), some (vR 11 0), some (vI a3)] [] σ post)) ∧ (¬ ((xs (a3.toNatClampNeg)) &&& (31 : Int32)) = 24 → ((((xs (a3.toNatClampNeg)) &&& (31 : Int32)) = 25 → (Ev (some (n, xs)) (d + 8) m_L_law 1053 [some (vR 63 0), some (vR 0 0), some (vR 11 0), some (vI a3)] [] σ post)) ∧ (¬ ((xs (a3.toNatClampNeg)) &&& (31 : Int32)) = 25 → ((((xs (a3.toNatClampNeg)) &&& (31 : Int32)) = 26 → (Ev (some (n, xs)) (d + 8) m_L_law 1076 [some (vR 63 0), some (vR 0 0), some (vR 11 0), some (vI a3)] [] σ post)) ∧ (¬ ((xs (a3.toNatClampNeg)) &&& (31 : Int32)) = 26 → ((((xs (a3.toNatClampNeg)) &&& (31 : Int32)) = 27 → (Ev (some (n, xs)) (d + 8) m_L_law 1129 [some (vR 63 0), some (vR 0 0), some (vR 11 0), some (vI a3)] [] σ post)) ∧ (¬ ((xs (a3.toNatClampNeg)) &&& (31 : Int32)) = 27 → ((((xs (a3.toNatClampNeg)) &&& (31 : Int32)) = 28 → (Ev (some (n, xs)) (d + 8) m_L_law 1172 [some (vR 63 0), some (vR 0 0), some (vR 11 0), some (vI a3)] [] σ post)) ∧ (¬ ((xs (a3.toNatClampNeg)) &&& (31 : Int32)) = 28 → ((((xs (a3.toNatClampNeg)) &&& (31 : Int32)) = 29 → (Ev (some (n, xs)) (d + 8) m_L_law 1235 [some (vR 63 0), some (vR 0 0), some (vR 11 0), some (vI a3)] [] σ post)) ∧ (¬ ((xs (a3.toNatClampNeg)) &&& (31 : Int32)) = 29 → ((((xs (a3.toNatClampNeg)) &&& (31 : Int32)) = 30 → (Ev (some (n, xs)) (d + 8) m_L_law 1268 [some (vR 63 0), some (vR 0 0), some (vR 11 0), some (vI a3)] [] σ post)) ∧ (¬ ((xs (a3.toNatClampNeg)) &&& (31 : Int32)) = 30 → ((((xs (a3.toNatClampNeg)) &&& (31 : Int32)) = 31 → (Ev (some (n, xs)) (d + 8) m_L_law 1291 [some (vR 63 0), some (vR 0 0), some (vR 11 0), some (vI a3)] [] σ post)) ∧ (¬ ((xs (a3.toNatClampNeg)) &&& (31 : Int32)) = 31 → False))))))))))))))))))))))))))))))))))))))))))))))))))))))))))))))))))) : Ev (some (n, xs)) (d + 8) m_L_law 18 [some (vR 63 0), some (vR 0 0), some (vR 11 0), some (vI a3)] [] σ post := by
  refine ev_iload_n d_L_law_18 rfl rfl ?_
  refine ev_aload_n d_L_law_19 rfl rfl ?_
  refine ev_slen d_L_law_20 ?_
  refine ev_bipush (v := 6) d_L_law_21 (by decide) ?_
  refine ev_isub d_L_law_23 ?_
  refine ev_icmp_gt (tgt := 1311) d_L_law_24 rfl (fun h1 => ?_) (fun h1 => ?_)
  · replace K := K.1 h1
    refine ev_iconst (v := 1) d_L_law_1311 (by decide) ?_
    exact ev_ret (r := some (vI (1 : Int32))) d_L_law_1312 rfl ⟨rfl, (by decide)⟩ K
  · replace K := K.2 h1
    refine ev_aload_n d_L_law_27 rfl rfl ?_
    refine ev_iload_n d_L_law_28 rfl rfl ?_
    obtain ⟨q2, K⟩ := K
    refine ev_sld q2 d_L_law_29 ?_
    refine ev_bipush (v := 31) d_L_law_30 (by decide) ?_
    refine ev_iand d_L_law_32 ?_
    by_cases h3 : ((xs (a3.toNatClampNeg)) &&& (31 : Int32)) = 0
    · replace K := K.1 h3
      refine ev_tableIn (off := 143) (tgt := 176) d_L_law_33 (by rw [h3]; decide) (by rw [h3]; decide) (by rw [h3]; decide) rfl ?_
      exact K
    · replace K := K.2 h3
      by_cases h4 : ((xs (a3.toNatClampNeg)) &&& (31 : Int32)) = 1
      · replace K := K.1 h4
        refine ev_tableIn (off := 166) (tgt := 199) d_L_law_33 (by rw [h4]; decide) (by rw [h4]; decide) (by rw [h4]; decide) rfl ?_
        exact K
      · replace K := K.2 h4
        by_cases h5 : ((xs (a3.toNatClampNeg)) &&& (31 : Int32)) = 2
        · replace K := K.1 h5
          refine ev_tableIn (off := 179) (tgt := 212) d_L_law_33 (by rw [h5]; decide) (by rw [h5]; decide) (by rw [h5]; decide) rfl ?_
          exact K
        · replace K := K.2 h5
          by_cases h6 : ((xs (a3.toNatClampNeg)) &&& (31 : Int32)) = 3
          · replace K := K.1 h6
            refine ev_tableIn (off := 192) (tgt := 225) d_L_law_33 (by rw [h6]; decide) (by rw [h6]; decide) (by rw [h6]; decide) rfl ?_
            exact K
          · replace K := K.2 h6
            by_cases h7 : ((xs (a3.toNatClampNeg)) &&& (31 : Int32)) = 4
            · replace K := K.1 h7
              refine ev_tableIn (off := 225) (tgt := 258) d_L_law_33 (by rw [h7]; decide) (by rw [h7]; decide) (by rw [h7]; decide) rfl ?_
              exact K
            · replace K := K.2 h7
              by_cases h8 : ((xs (a3.toNatClampNeg)) &&& (31 : Int32)) = 5
              · replace K := K.1 h8
                refine ev_tableIn (off := 268) (tgt := 301) d_L_law_33 (by rw [h8]; decide) (by rw [h8]; decide) (by rw [h8]; decide) rfl ?_
                exact K
              · replace K := K.2 h8
                by_cases h9 : ((xs (a3.toNatClampNeg)) &&& (31 : Int32)) = 6
                · replace K := K.1 h9
                  refine ev_tableIn (off := 301) (tgt := 334) d_L_law_33 (by rw [h9]; decide) (by rw [h9]; decide) (by rw [h9]; decide) rfl ?_
                  exact K
                · replace K := K.2 h9
                  by_cases h10 : ((xs (a3.toNatClampNeg)) &&& (31 : Int32)) = 7
                  · replace K := K.1 h10
                    refine ev_tableIn (off := 344) (tgt := 377) d_L_law_33 (by rw [h10]; decide) (by rw [h10]; decide) (by rw [h10]; decide) rfl ?_
                    exact K
                  · replace K := K.2 h10
                    by_cases h11 : ((xs (a3.toNatClampNeg)) &&& (31 : Int32)) = 8
                    · replace K := K.1 h11
                      refine ev_tableIn (off := 377) (tgt := 410) d_L_law_33 (by rw [h11]; decide) (by rw [h11]; decide) (by rw [h11]; decide) rfl ?_
                      exact K
                    · replace K := K.2 h11
                      by_cases h12 : ((xs (a3.toNatClampNeg)) &&& (31 : Int32)) = 9
                      · replace K := K.1 h12
                        refine ev_tableIn (off := 420) (tgt := 453) d_L_law_33 (by rw [h12]; decide) (by rw [h12]; decide) (by rw [h12]; decide) rfl ?_
                        exact K
                      · replace K := K.2 h12
                        by_cases h13 : ((xs (a3.toNatClampNeg)) &&& (31 : Int32)) = 10
                        · replace K := K.1 h13
                          refine ev_tableIn (off := 453) (tgt := 486) d_L_law_33 (by rw [h13]; decide) (by rw [h13]; decide) (by rw [h13]; decide) rfl ?_
                          exact K
                        · replace K := K.2 h13
                          by_cases h14 : ((xs (a3.toNatClampNeg)) &&& (31 : Int32)) = 11
                          · replace K := K.1 h14
                            refine ev_tableIn (off := 486) (tgt := 519) d_L_law_33 (by rw [h14]; decide) (by rw [h14]; decide) (by rw [h14]; decide) rfl ?_
                            exact K
                          · replace K := K.2 h14
                            by_cases h15 : ((xs (a3.toNatClampNeg)) &&& (31 : Int32)) = 12
                            · replace K := K.1 h15
                              refine ev_tableIn (off := 529) (tgt := 562) d_L_law_33 (by rw [h15]; decide) (by rw [h15]; decide) (by rw [h15]; decide) rfl ?_
                              exact K
                            · replace K := K.2 h15
                              by_cases h16 : ((xs (a3.toNatClampNeg)) &&& (31 : Int32)) = 13
                              · replace K := K.1 h16
                                refine ev_tableIn (off := 582) (tgt := 615) d_L_law_33 (by rw [h16]; decide) (by rw [h16]; decide) (by rw [h16]; decide) rfl ?_
                                exact K
                              · replace K := K.2 h16
                                by_cases h17 : ((xs (a3.toNatClampNeg)) &&& (31 : Int32)) = 14
                                · replace K := K.1 h17
                                  refine ev_tableIn (off := 625) (tgt := 658) d_L_law_33 (by rw [h17]; decide) (by rw [h17]; decide) (by rw [h17]; decide) rfl ?_
                                  exact K
                                · replace K := K.2 h17
                                  by_cases h18 : ((xs (a3.toNatClampNeg)) &&& (31 : Int32)) = 15
                                  · replace K := K.1 h18
                                    refine ev_tableIn (off := 668) (tgt := 701) d_L_law_33 (by rw [h18]; decide) (by rw [h18]; decide) (by rw [h18]; decide) rfl ?_
                                    exact K
                                  · replace K := K.2 h18
                                    by_cases h19 : ((xs (a3.toNatClampNeg)) &&& (31 : Int32)) = 16
                                    · replace K := K.1 h19
                                      refine ev_tableIn (off := 721) (tgt := 754) d_L_law_33 (by rw [h19]; decide) (by rw [h19]; decide) (by rw [h19]; decide) rfl ?_
                                      exact K
                                    · replace K := K.2 h19
                                      by_cases h20 : ((xs (a3.toNatClampNeg)) &&& (31 : Int32)) = 17
                                      · replace K := K.1 h20
                                        refine ev_tableIn (off := 764) (tgt := 797) d_L_law_33 (by rw [h20]; decide) (by rw [h20]; decide) (by rw [h20]; decide) rfl ?_
                                        exact K
                                      · replace K := K.2 h20
                                        by_cases h21 : ((xs (a3.toNatClampNeg)) &&& (31 : Int32)) = 18
                                        · replace K := K.1 h21
                                          refine ev_tableIn (off := 797) (tgt := 830) d_L_law_33 (by rw [h21]; decide) (by rw [h21]; decide) (by rw [h21]; decide) rfl ?_
                                          exact K
                                        · replace K := K.2 h21
                                          by_cases h22 : ((xs (a3.toNatClampNeg)) &&& (31 : Int32)) = 19
                                          · replace K := K.1 h22
                                            refine ev_tableIn (off := 840) (tgt := 873) d_L_law_33 (by rw [h22]; decide) (by rw [h22]; decide) (by rw [h22]; decide) rfl ?_
                                            exact K
                                          · replace K := K.2 h22
                                            by_cases h23 : ((xs (a3.toNatClampNeg)) &&& (31 : Int32)) = 20
                                            · replace K := K.1 h23
                                              refine ev_tableIn (off := 853) (tgt := 886) d_L_law_33 (by rw [h23]; decide) (by rw [h23]; decide) (by rw [h23]; decide) rfl ?_
                                              exact K
                                            · replace K := K.2 h23
                                              by_cases h24 : ((xs (a3.toNatClampNeg)) &&& (31 : Int32)) = 21
                                              · replace K := K.1 h24
                                                refine ev_tableIn (off := 886) (tgt := 919) d_L_law_33 (by rw [h24]; decide) (by rw [h24]; decide) (by rw [h24]; decide) rfl ?_
                                                exact K
                                              · replace K := K.2 h24
                                                by_cases h25 : ((xs (a3.toNatClampNeg)) &&& (31 : Int32)) = 22
                                                · replace K := K.1 h25
                                                  refine ev_tableIn (off := 899) (tgt := 932) d_L_law_33 (by rw [h25]; decide) (by rw [h25]; decide) (by rw [h25]; decide) rfl ?_
                                                  exact K
                                                · replace K := K.2 h25
                                                  by_cases h26 : ((xs (a3.toNatClampNeg)) &&& (31 : Int32)) = 23
                                                  · replace K := K.1 h26
                                                    refine ev_tableIn (off := 943) (tgt := 976) d_L_law_33 (by rw [h26]; decide) (by rw [h26]; decide) (by rw [h26]; decide) rfl ?_
                                                    exact K
                                                  · replace K := K.2 h26
                                                    by_cases h27 : ((xs (a3.toNatClampNeg)) &&& (31 : Int32)) = 24
                                                    · replace K := K.1 h27
                                                      refine ev_tableIn (off := 977) (tgt := 1010) d_L_law_33 (by rw [h27]; decide) (by rw [h27]; decide) (by rw [h27]; decide) rfl ?_
                                                      exact K
                                                    · replace K := K.2 h27
                                                      by_cases h28 : ((xs (a3.toNatClampNeg)) &&& (31 : Int32)) = 25
                                                      · replace K := K.1 h28
                                                        refine ev_tableIn (off := 1020) (tgt := 1053) d_L_law_33 (by rw [h28]; decide) (by rw [h28]; decide) (by rw [h28]; decide) rfl ?_
                                                        exact K
                                                      · replace K := K.2 h28
                                                        by_cases h29 : ((xs (a3.toNatClampNeg)) &&& (31 : Int32)) = 26
                                                        · replace K := K.1 h29
                                                          refine ev_tableIn (off := 1043) (tgt := 1076) d_L_law_33 (by rw [h29]; decide) (by rw [h29]; decide) (by rw [h29]; decide) rfl ?_
                                                          exact K
                                                        · replace K := K.2 h29
                                                          by_cases h30 : ((xs (a3.toNatClampNeg)) &&& (31 : Int32)) = 27
                                                          · replace K := K.1 h30
                                                            refine ev_tableIn (off := 1096) (tgt := 1129) d_L_law_33 (by rw [h30]; decide) (by rw [h30]; decide) (by rw [h30]; decide) rfl ?_
                                                            exact K
                                                          · replace K := K.2 h30
                                                            by_cases h31 : ((xs (a3.toNatClampNeg)) &&& (31 : Int32)) = 28
                                                            · replace K := K.1 h31
                                                              refine ev_tableIn (off := 1139) (tgt := 1172) d_L_law_33 (by rw [h31]; decide) (by rw [h31]; decide) (by rw [h31]; decide) rfl ?_
                                                              exact K
                                                            · replace K := K.2 h31
                                                              by_cases h32 : ((xs (a3.toNatClampNeg)) &&& (31 : Int32)) = 29
                                                              · replace K := K.1 h32
                                                                refine ev_tableIn (off := 1202) (tgt := 1235) d_L_law_33 (by rw [h32]; decide) (by rw [h32]; decide) (by rw [h32]; decide) rfl ?_
                                                                exact K
                                                              · replace K := K.2 h32
                                                                by_cases h33 : ((xs (a3.toNatClampNeg)) &&& (31 : Int32)) = 30
                                                                · replace K := K.1 h33
                                                                  refine ev_tableIn (off := 1235) (tgt := 1268) d_L_law_33 (by rw [h33]; decide) (by rw [h33]; decide) (by rw [h33]; decide) rfl ?_
                                                                  exact K
                                                                · replace K := K.2 h33
                                                                  by_cases h34 : ((xs (a3.toNatClampNeg)) &&& (31 : Int32)) = 31
                                                                  · replace K := K.1 h34
                                                                    refine ev_tableIn (off := 1258) (tgt := 1291) d_L_law_33 (by rw [h34]; decide) (by rw [h34]; decide) (by rw [h34]; decide) rfl ?_
                                                                    exact K
                                                                  · replace K := K.2 h34
                                                                    exact absurd K id
set_option maxRecDepth 4000 in
theorem sg_L_law_176 {d n : Nat} {xs : Nat → Int32} {σ : ST} {a3 : Int32} {post : Option AV → ST → Prop} (K : (vp_in (a3 + (1 : Int32)) n) ∧ (Ev none (d + 7) m_O_type 0 [some (vR 0 0), some (vI (xs ((a3 + (1 : Int32)).toNatClampNeg)))] [] σ (fun r s2 => ∃ z3 : Int32, r = some (vI z3) ∧ ((vp_in (a3 + (1 : Int32)) n) ∧ (Ev none (d + 7) m_M_type 0 [some (vR 11 0), some (vI (xs ((a3 + (1 : Int32)).toNatClampNeg)))] [] s2 (fun r s5 => ∃ z6 : Int32, r = some (vI z6) ∧ (((z3 = z6) → (Ev (some (n, xs)) (d + 8) m_L_law 18 [some (vR 63 0), some (vR 0 0), some (vR 11 0), some (vI (a3 + (6 : Int32)))] [] s5 post)) ∧ (¬ (z3 = z6) → (post (some (vI (0 : Int32))) s5))))))))) : Ev (some (n, xs)) (d + 8) m_L_law 176 [some (vR 63 0), some (vR 0 0), some (vR 11 0), some (vI a3)] [] σ post := by
  refine ev_aload_n d_L_law_176 rfl rfl ?_
  refine ev_aload_n d_L_law_177 rfl rfl ?_
  refine ev_iload_n d_L_law_178 rfl rfl ?_
  refine ev_iconst (v := 1) d_L_law_179 (by decide) ?_
  refine ev_iadd d_L_law_180 ?_
  obtain ⟨q1, K⟩ := K
  refine ev_sld q1 d_L_law_181 ?_
  refine ev_callV (as := [vI (xs ((a3 + (1 : Int32)).toNatClampNeg))]) (st := []) (k := 0) (i := 0) g_O_type ml_L_13 rfl rfl (by decide) (by decide) d_L_law_182 rfl rfl (Nat.le_of_ble_eq_true rfl) rfl (Nat.le_of_ble_eq_true rfl) ?_
  refine Ev.mono K ?_
  rintro _ s2 ⟨z3, rfl, K⟩
  show Ev (some (n, xs)) (d + 8) m_L_law 185 [some (vR 63 0), some (vR 0 0), some (vR 11 0), some (vI a3)] [vI z3] s2 post
  refine ev_aload_n d_L_law_185 rfl rfl ?_
  refine ev_aload_n d_L_law_186 rfl rfl ?_
  refine ev_iload_n d_L_law_187 rfl rfl ?_
  refine ev_iconst (v := 1) d_L_law_188 (by decide) ?_
  refine ev_iadd d_L_law_189 ?_
  obtain ⟨q4, K⟩ := K
  refine ev_sld q4 d_L_law_190 ?_
  refine ev_callV (as := [vI (xs ((a3 + (1 : Int32)).toNatClampNeg))]) (st := [vI z3]) (k := 11) (i := 0) g_M_type ml_L_17 rfl rfl (by decide) (by decide) d_L_law_191 rfl rfl (Nat.le_of_ble_eq_true rfl) rfl (Nat.le_of_ble_eq_true rfl) ?_
  refine Ev.mono K ?_
  rintro _ s5 ⟨z6, rfl, K⟩
  show Ev (some (n, xs)) (d + 8) m_L_law 194 [some (vR 63 0), some (vR 0 0), some (vR 11 0), some (vI a3)] [vI z6, vI z3] s5 post
  refine ev_icmp_eq (tgt := 1305) d_L_law_194 rfl (fun h7 => ?_) (fun h7 => ?_)
  · replace K := K.1 h7
    refine ev_iinc (v := a3 + (6 : Int32)) (L' := [some (vR 63 0), some (vR 0 0), some (vR 11 0), some (vI (a3 + (6 : Int32)))]) d_L_law_1305 rfl (congrArg (a3 + ·) (by decide)) (by decide) rfl ?_
    refine ev_goto (tgt := 18) d_L_law_1308 rfl ?_
    exact K
  · replace K := K.2 h7
    refine ev_iconst (v := 0) d_L_law_197 (by decide) ?_
    exact ev_ret (r := some (vI (0 : Int32))) d_L_law_198 rfl ⟨rfl, (by decide)⟩ K
set_option maxRecDepth 4000 in
theorem sg_L_law_199 {d n : Nat} {xs : Nat → Int32} {σ : ST} {a3 : Int32} {post : Option AV → ST → Prop} (K : Ev none (d + 7) m_O_wipe 0 [some (vR 0 0), none] [] σ (fun r s1 => ∃ z2 : Int32, r = some (vI z2) ∧ (Ev none (d + 7) m_M_wipe 0 [some (vR 11 0), none] [] s1 (fun r s3 => ∃ z4 : Int32, r = some (vI z4) ∧ (((z2 = z4) → (Ev (some (n, xs)) (d + 8) m_L_law 18 [some (vR 63 0), some (vR 0 0), some (vR 11 0), some (vI (a3 + (6 : Int32)))] [] s3 post)) ∧ (¬ (z2 = z4) → (post (some (vI (0 : Int32))) s3))))))) : Ev (some (n, xs)) (d + 8) m_L_law 199 [some (vR 63 0), some (vR 0 0), some (vR 11 0), some (vI a3)] [] σ post := by
  refine ev_aload_n d_L_law_199 rfl rfl ?_
  refine ev_callV (as := []) (st := []) (k := 0) (i := 0) g_O_wipe ml_L_18 rfl rfl (by decide) (by decide) d_L_law_200 rfl rfl (Nat.le_of_ble_eq_true rfl) rfl (Nat.le_of_ble_eq_true rfl) ?_
  refine Ev.mono K ?_
  rintro _ s1 ⟨z2, rfl, K⟩
  show Ev (some (n, xs)) (d + 8) m_L_law 203 [some (vR 63 0), some (vR 0 0), some (vR 11 0), some (vI a3)] [vI z2] s1 post
  refine ev_aload_n d_L_law_203 rfl rfl ?_
  refine ev_callV (as := []) (st := [vI z2]) (k := 11) (i := 0) g_M_wipe ml_L_22 rfl rfl (by decide) (by decide) d_L_law_204 rfl rfl (Nat.le_of_ble_eq_true rfl) rfl (Nat.le_of_ble_eq_true rfl) ?_
  refine Ev.mono K ?_
  rintro _ s3 ⟨z4, rfl, K⟩
  show Ev (some (n, xs)) (d + 8) m_L_law 207 [some (vR 63 0), some (vR 0 0), some (vR 11 0), some (vI a3)] [vI z4, vI z2] s3 post
  refine ev_icmp_eq (tgt := 1305) d_L_law_207 rfl (fun h5 => ?_) (fun h5 => ?_)
  · replace K := K.1 h5
    refine ev_iinc (v := a3 + (6 : Int32)) (L' := [some (vR 63 0), some (vR 0 0), some (vR 11 0), some (vI (a3 + (6 : Int32)))]) d_L_law_1305 rfl (congrArg (a3 + ·) (by decide)) (by decide) rfl ?_
    refine ev_goto (tgt := 18) d_L_law_1308 rfl ?_
    exact K
  · replace K := K.2 h5
    refine ev_iconst (v := 0) d_L_law_210 (by decide) ?_
    exact ev_ret (r := some (vI (0 : Int32))) d_L_law_211 rfl ⟨rfl, (by decide)⟩ K
set_option maxRecDepth 4000 in
theorem sg_L_law_212 {d n : Nat} {xs : Nat → Int32} {σ : ST} {a3 : Int32} {post : Option AV → ST → Prop} (K : Ev none (d + 7) m_M_fault 0 [some (vR 11 0)] [] σ (fun r s1 => ∃ z2 : Int32, r = some (vI z2) ∧ ((((fn_O_fault σ) = z2) → (Ev (some (n, xs)) (d + 8) m_L_law 18 [some (vR 63 0), some (vR 0 0), some (vR 11 0), some (vI (a3 + (6 : Int32)))] [] s1 post)) ∧ (¬ ((fn_O_fault σ) = z2) → (post (some (vI (0 : Int32))) s1))))) : Ev (some (n, xs)) (d + 8) m_L_law 212 [some (vR 63 0), some (vR 0 0), some (vR 11 0), some (vI a3)] [] σ post := by
  refine ev_aload_n d_L_law_212 rfl rfl ?_
  refine ev_callV (as := []) (st := []) (k := 0) (i := 0) g_O_fault ml_L_23 rfl rfl (by decide) (by decide) d_L_law_213 rfl rfl (Nat.le_of_ble_eq_true rfl) rfl (Nat.le_of_ble_eq_true rfl) ?_
  refine f_O_fault  ?_
  show Ev (some (n, xs)) (d + 8) m_L_law 216 [some (vR 63 0), some (vR 0 0), some (vR 11 0), some (vI a3)] [vI (fn_O_fault σ)] σ post
  refine ev_aload_n d_L_law_216 rfl rfl ?_
  refine ev_callV (as := []) (st := [vI (fn_O_fault σ)]) (k := 11) (i := 0) g_M_fault ml_L_26 rfl rfl (by decide) (by decide) d_L_law_217 rfl rfl (Nat.le_of_ble_eq_true rfl) rfl (Nat.le_of_ble_eq_true rfl) ?_
  refine Ev.mono K ?_
  rintro _ s1 ⟨z2, rfl, K⟩
  show Ev (some (n, xs)) (d + 8) m_L_law 220 [some (vR 63 0), some (vR 0 0), some (vR 11 0), some (vI a3)] [vI z2, vI (fn_O_fault σ)] s1 post
  refine ev_icmp_eq (tgt := 1305) d_L_law_220 rfl (fun h3 => ?_) (fun h3 => ?_)
  · replace K := K.1 h3
    refine ev_iinc (v := a3 + (6 : Int32)) (L' := [some (vR 63 0), some (vR 0 0), some (vR 11 0), some (vI (a3 + (6 : Int32)))]) d_L_law_1305 rfl (congrArg (a3 + ·) (by decide)) (by decide) rfl ?_
    refine ev_goto (tgt := 18) d_L_law_1308 rfl ?_
    exact K
  · replace K := K.2 h3
    refine ev_iconst (v := 0) d_L_law_223 (by decide) ?_
    exact ev_ret (r := some (vI (0 : Int32))) d_L_law_224 rfl ⟨rfl, (by decide)⟩ K
set_option maxRecDepth 4000 in
theorem sg_L_law_225 {d n : Nat} {xs : Nat → Int32} {σ : ST} {a3 : Int32} {post : Option AV → ST → Prop} (K : (vp_in (a3 + (1 : Int32)) n) ∧ ((vp_in (a3 + (2 : Int32)) n) ∧ ((fs_O_chapter σ (xs ((a3 + (1 : Int32)).toNatClampNeg)) (xs ((a3 + (2 : Int32)).toNatClampNeg))) ∧ ((vp_in (a3 + (1 : Int32)) n) ∧ ((vp_in (a3 + (2 : Int32)) n) ∧ (Ev none (d + 7) m_M_chapter 0 [some (vR 11 0), some (vI (xs ((a3 + (1 : Int32)).toNatClampNeg))), some (vI (xs ((a3 + (2 : Int32)).toNatClampNeg)))] [] σ (fun r s6 => ∃ z7 : Int32, r = some (vI z7) ∧ ((((fn_O_chapter σ (xs ((a3 + (1 : Int32)).toNatClampNeg)) (xs ((a3 + (2 : Int32)).toNatClampNeg))) = z7) → (Ev (some (n, xs)) (d + 8) m_L_law 18 [some (vR 63 0), some (vR 0 0), some (vR 11 0), some (vI (a3 + (6 : Int32)))] [] s6 post)) ∧ (¬ ((fn_O_chapter σ (xs ((a3 + (1 : Int32)).toNatClampNeg)) (xs ((a3 + (2 : Int32)).toNatClampNeg))) = z7) → (post (some (vI (0 : Int32))) s6)))))))))) : Ev (some (n, xs)) (d + 8) m_L_law 225 [some (vR 63 0), some (vR 0 0), some (vR 11 0), some (vI a3)] [] σ post := by
  refine ev_aload_n d_L_law_225 rfl rfl ?_
  refine ev_aload_n d_L_law_226 rfl rfl ?_
  refine ev_iload_n d_L_law_227 rfl rfl ?_
  refine ev_iconst (v := 1) d_L_law_228 (by decide) ?_
  refine ev_iadd d_L_law_229 ?_
  obtain ⟨q1, K⟩ := K
  refine ev_sld q1 d_L_law_230 ?_
  refine ev_aload_n d_L_law_231 rfl rfl ?_
  refine ev_iload_n d_L_law_232 rfl rfl ?_
  refine ev_iconst (v := 2) d_L_law_233 (by decide) ?_
  refine ev_iadd d_L_law_234 ?_
  obtain ⟨q2, K⟩ := K
  refine ev_sld q2 d_L_law_235 ?_
  obtain ⟨q3, K⟩ := K
  refine ev_callV (as := [vI (xs ((a3 + (1 : Int32)).toNatClampNeg)), vI (xs ((a3 + (2 : Int32)).toNatClampNeg))]) (st := []) (k := 0) (i := 0) g_O_chapter ml_L_27 rfl rfl (by decide) (by decide) d_L_law_236 rfl rfl (Nat.le_of_ble_eq_true rfl) rfl (Nat.le_of_ble_eq_true rfl) ?_
  refine f_O_chapter q3 ?_
  show Ev (some (n, xs)) (d + 8) m_L_law 239 [some (vR 63 0), some (vR 0 0), some (vR 11 0), some (vI a3)] [vI (fn_O_chapter σ (xs ((a3 + (1 : Int32)).toNatClampNeg)) (xs ((a3 + (2 : Int32)).toNatClampNeg)))] σ post
  refine ev_aload_n d_L_law_239 rfl rfl ?_
  refine ev_aload_n d_L_law_240 rfl rfl ?_
  refine ev_iload_n d_L_law_241 rfl rfl ?_
  refine ev_iconst (v := 1) d_L_law_242 (by decide) ?_
  refine ev_iadd d_L_law_243 ?_
  obtain ⟨q4, K⟩ := K
  refine ev_sld q4 d_L_law_244 ?_
  refine ev_aload_n d_L_law_245 rfl rfl ?_
  refine ev_iload_n d_L_law_246 rfl rfl ?_
  refine ev_iconst (v := 2) d_L_law_247 (by decide) ?_
  refine ev_iadd d_L_law_248 ?_
  obtain ⟨q5, K⟩ := K
  refine ev_sld q5 d_L_law_249 ?_
  refine ev_callV (as := [vI (xs ((a3 + (1 : Int32)).toNatClampNeg)), vI (xs ((a3 + (2 : Int32)).toNatClampNeg))]) (st := [vI (fn_O_chapter σ (xs ((a3 + (1 : Int32)).toNatClampNeg)) (xs ((a3 + (2 : Int32)).toNatClampNeg)))]) (k := 11) (i := 0) g_M_chapter ml_L_31 rfl rfl (by decide) (by decide) d_L_law_250 rfl rfl (Nat.le_of_ble_eq_true rfl) rfl (Nat.le_of_ble_eq_true rfl) ?_
  refine Ev.mono K ?_
  rintro _ s6 ⟨z7, rfl, K⟩
  show Ev (some (n, xs)) (d + 8) m_L_law 253 [some (vR 63 0), some (vR 0 0), some (vR 11 0), some (vI a3)] [vI z7, vI (fn_O_chapter σ (xs ((a3 + (1 : Int32)).toNatClampNeg)) (xs ((a3 + (2 : Int32)).toNatClampNeg)))] s6 post
  refine ev_icmp_eq (tgt := 1305) d_L_law_253 rfl (fun h8 => ?_) (fun h8 => ?_)
  · replace K := K.1 h8
    refine ev_iinc (v := a3 + (6 : Int32)) (L' := [some (vR 63 0), some (vR 0 0), some (vR 11 0), some (vI (a3 + (6 : Int32)))]) d_L_law_1305 rfl (congrArg (a3 + ·) (by decide)) (by decide) rfl ?_
    refine ev_goto (tgt := 18) d_L_law_1308 rfl ?_
    exact K
  · replace K := K.2 h8
    refine ev_iconst (v := 0) d_L_law_256 (by decide) ?_
    exact ev_ret (r := some (vI (0 : Int32))) d_L_law_257 rfl ⟨rfl, (by decide)⟩ K
set_option maxRecDepth 4000 in
theorem sg_L_law_258 {d n : Nat} {xs : Nat → Int32} {σ : ST} {a3 : Int32} {post : Option AV → ST → Prop} (K : (vp_in (a3 + (1 : Int32)) n) ∧ ((vp_in (a3 + (2 : Int32)) n) ∧ ((vp_in (a3 + (3 : Int32)) n) ∧ (Ev none (d + 7) m_O_pace 0 [some (vR 0 0), some (vI (xs ((a3 + (1 : Int32)).toNatClampNeg))), some (vI (xs ((a3 + (2 : Int32)).toNatClampNeg))), some (vI (xs ((a3 + (3 : Int32)).toNatClampNeg)))] [] σ (fun r s4 => ∃ z5 : Int32, r = some (vI z5) ∧ ((vp_in (a3 + (1 : Int32)) n) ∧ ((vp_in (a3 + (2 : Int32)) n) ∧ ((vp_in (a3 + (3 : Int32)) n) ∧ (Ev none (d + 7) m_M_pace 0 [some (vR 11 0), some (vI (xs ((a3 + (1 : Int32)).toNatClampNeg))), some (vI (xs ((a3 + (2 : Int32)).toNatClampNeg))), some (vI (xs ((a3 + (3 : Int32)).toNatClampNeg))), none] [] s4 (fun r s9 => ∃ z10 : Int32, r = some (vI z10) ∧ (((z5 = z10) → (Ev (some (n, xs)) (d + 8) m_L_law 18 [some (vR 63 0), some (vR 0 0), some (vR 11 0), some (vI (a3 + (6 : Int32)))] [] s9 post)) ∧ (¬ (z5 = z10) → (post (some (vI (0 : Int32))) s9))))))))))))) : Ev (some (n, xs)) (d + 8) m_L_law 258 [some (vR 63 0), some (vR 0 0), some (vR 11 0), some (vI a3)] [] σ post := by
  refine ev_aload_n d_L_law_258 rfl rfl ?_
  refine ev_aload_n d_L_law_259 rfl rfl ?_
  refine ev_iload_n d_L_law_260 rfl rfl ?_
  refine ev_iconst (v := 1) d_L_law_261 (by decide) ?_
  refine ev_iadd d_L_law_262 ?_
  obtain ⟨q1, K⟩ := K
  refine ev_sld q1 d_L_law_263 ?_
  refine ev_aload_n d_L_law_264 rfl rfl ?_
  refine ev_iload_n d_L_law_265 rfl rfl ?_
  refine ev_iconst (v := 2) d_L_law_266 (by decide) ?_
  refine ev_iadd d_L_law_267 ?_
  obtain ⟨q2, K⟩ := K
  refine ev_sld q2 d_L_law_268 ?_
  refine ev_aload_n d_L_law_269 rfl rfl ?_
  refine ev_iload_n d_L_law_270 rfl rfl ?_
  refine ev_iconst (v := 3) d_L_law_271 (by decide) ?_
  refine ev_iadd d_L_law_272 ?_
  obtain ⟨q3, K⟩ := K
  refine ev_sld q3 d_L_law_273 ?_
  refine ev_callV (as := [vI (xs ((a3 + (1 : Int32)).toNatClampNeg)), vI (xs ((a3 + (2 : Int32)).toNatClampNeg)), vI (xs ((a3 + (3 : Int32)).toNatClampNeg))]) (st := []) (k := 0) (i := 0) g_O_pace ml_L_32 rfl rfl (by decide) (by decide) d_L_law_274 rfl rfl (Nat.le_of_ble_eq_true rfl) rfl (Nat.le_of_ble_eq_true rfl) ?_
  refine Ev.mono K ?_
  rintro _ s4 ⟨z5, rfl, K⟩
  show Ev (some (n, xs)) (d + 8) m_L_law 277 [some (vR 63 0), some (vR 0 0), some (vR 11 0), some (vI a3)] [vI z5] s4 post
  refine ev_aload_n d_L_law_277 rfl rfl ?_
  refine ev_aload_n d_L_law_278 rfl rfl ?_
  refine ev_iload_n d_L_law_279 rfl rfl ?_
  refine ev_iconst (v := 1) d_L_law_280 (by decide) ?_
  refine ev_iadd d_L_law_281 ?_
  obtain ⟨q6, K⟩ := K
  refine ev_sld q6 d_L_law_282 ?_
  refine ev_aload_n d_L_law_283 rfl rfl ?_
  refine ev_iload_n d_L_law_284 rfl rfl ?_
  refine ev_iconst (v := 2) d_L_law_285 (by decide) ?_
  refine ev_iadd d_L_law_286 ?_
  obtain ⟨q7, K⟩ := K
  refine ev_sld q7 d_L_law_287 ?_
  refine ev_aload_n d_L_law_288 rfl rfl ?_
  refine ev_iload_n d_L_law_289 rfl rfl ?_
  refine ev_iconst (v := 3) d_L_law_290 (by decide) ?_
  refine ev_iadd d_L_law_291 ?_
  obtain ⟨q8, K⟩ := K
  refine ev_sld q8 d_L_law_292 ?_
  refine ev_callV (as := [vI (xs ((a3 + (1 : Int32)).toNatClampNeg)), vI (xs ((a3 + (2 : Int32)).toNatClampNeg)), vI (xs ((a3 + (3 : Int32)).toNatClampNeg))]) (st := [vI z5]) (k := 11) (i := 0) g_M_pace ml_L_36 rfl rfl (by decide) (by decide) d_L_law_293 rfl rfl (Nat.le_of_ble_eq_true rfl) rfl (Nat.le_of_ble_eq_true rfl) ?_
  refine Ev.mono K ?_
  rintro _ s9 ⟨z10, rfl, K⟩
  show Ev (some (n, xs)) (d + 8) m_L_law 296 [some (vR 63 0), some (vR 0 0), some (vR 11 0), some (vI a3)] [vI z10, vI z5] s9 post
  refine ev_icmp_eq (tgt := 1305) d_L_law_296 rfl (fun h11 => ?_) (fun h11 => ?_)
  · replace K := K.1 h11
    refine ev_iinc (v := a3 + (6 : Int32)) (L' := [some (vR 63 0), some (vR 0 0), some (vR 11 0), some (vI (a3 + (6 : Int32)))]) d_L_law_1305 rfl (congrArg (a3 + ·) (by decide)) (by decide) rfl ?_
    refine ev_goto (tgt := 18) d_L_law_1308 rfl ?_
    exact K
  · replace K := K.2 h11
    refine ev_iconst (v := 0) d_L_law_299 (by decide) ?_
    exact ev_ret (r := some (vI (0 : Int32))) d_L_law_300 rfl ⟨rfl, (by decide)⟩ K
set_option maxRecDepth 4000 in
theorem sg_L_law_301 {d n : Nat} {xs : Nat → Int32} {σ : ST} {a3 : Int32} {post : Option AV → ST → Prop} (K : (vp_in (a3 + (1 : Int32)) n) ∧ ((vp_in (a3 + (2 : Int32)) n) ∧ (Ev none (d + 7) m_O_read 0 [some (vR 0 0), some (vI (xs ((a3 + (1 : Int32)).toNatClampNeg))), some (vI (xs ((a3 + (2 : Int32)).toNatClampNeg))), none, none, none] [] σ (fun r s3 => ∃ z4 : Int32, r = some (vI z4) ∧ ((vp_in (a3 + (1 : Int32)) n) ∧ ((vp_in (a3 + (2 : Int32)) n) ∧ (Ev none (d + 7) m_M_read 0 [some (vR 11 0), some (vI (xs ((a3 + (1 : Int32)).toNatClampNeg))), some (vI (xs ((a3 + (2 : Int32)).toNatClampNeg))), none] [] s3 (fun r s7 => ∃ z8 : Int32, r = some (vI z8) ∧ (((z4 = z8) → (Ev (some (n, xs)) (d + 8) m_L_law 18 [some (vR 63 0), some (vR 0 0), some (vR 11 0), some (vI (a3 + (6 : Int32)))] [] s7 post)) ∧ (¬ (z4 = z8) → (post (some (vI (0 : Int32))) s7))))))))))) : Ev (some (n, xs)) (d + 8) m_L_law 301 [some (vR 63 0), some (vR 0 0), some (vR 11 0), some (vI a3)] [] σ post := by
  refine ev_aload_n d_L_law_301 rfl rfl ?_
  refine ev_aload_n d_L_law_302 rfl rfl ?_
  refine ev_iload_n d_L_law_303 rfl rfl ?_
  refine ev_iconst (v := 1) d_L_law_304 (by decide) ?_
  refine ev_iadd d_L_law_305 ?_
  obtain ⟨q1, K⟩ := K
  refine ev_sld q1 d_L_law_306 ?_
  refine ev_aload_n d_L_law_307 rfl rfl ?_
  refine ev_iload_n d_L_law_308 rfl rfl ?_
  refine ev_iconst (v := 2) d_L_law_309 (by decide) ?_
  refine ev_iadd d_L_law_310 ?_
  obtain ⟨q2, K⟩ := K
  refine ev_sld q2 d_L_law_311 ?_
  refine ev_callV (as := [vI (xs ((a3 + (1 : Int32)).toNatClampNeg)), vI (xs ((a3 + (2 : Int32)).toNatClampNeg))]) (st := []) (k := 0) (i := 0) g_O_read ml_L_37 rfl rfl (by decide) (by decide) d_L_law_312 rfl rfl (Nat.le_of_ble_eq_true rfl) rfl (Nat.le_of_ble_eq_true rfl) ?_
  refine Ev.mono K ?_
  rintro _ s3 ⟨z4, rfl, K⟩
  show Ev (some (n, xs)) (d + 8) m_L_law 315 [some (vR 63 0), some (vR 0 0), some (vR 11 0), some (vI a3)] [vI z4] s3 post
  refine ev_aload_n d_L_law_315 rfl rfl ?_
  refine ev_aload_n d_L_law_316 rfl rfl ?_
  refine ev_iload_n d_L_law_317 rfl rfl ?_
  refine ev_iconst (v := 1) d_L_law_318 (by decide) ?_
  refine ev_iadd d_L_law_319 ?_
  obtain ⟨q5, K⟩ := K
  refine ev_sld q5 d_L_law_320 ?_
  refine ev_aload_n d_L_law_321 rfl rfl ?_
  refine ev_iload_n d_L_law_322 rfl rfl ?_
  refine ev_iconst (v := 2) d_L_law_323 (by decide) ?_
  refine ev_iadd d_L_law_324 ?_
  obtain ⟨q6, K⟩ := K
  refine ev_sld q6 d_L_law_325 ?_
  refine ev_callV (as := [vI (xs ((a3 + (1 : Int32)).toNatClampNeg)), vI (xs ((a3 + (2 : Int32)).toNatClampNeg))]) (st := [vI z4]) (k := 11) (i := 0) g_M_read ml_L_40 rfl rfl (by decide) (by decide) d_L_law_326 rfl rfl (Nat.le_of_ble_eq_true rfl) rfl (Nat.le_of_ble_eq_true rfl) ?_
  refine Ev.mono K ?_
  rintro _ s7 ⟨z8, rfl, K⟩
  show Ev (some (n, xs)) (d + 8) m_L_law 329 [some (vR 63 0), some (vR 0 0), some (vR 11 0), some (vI a3)] [vI z8, vI z4] s7 post
  refine ev_icmp_eq (tgt := 1305) d_L_law_329 rfl (fun h9 => ?_) (fun h9 => ?_)
  · replace K := K.1 h9
    refine ev_iinc (v := a3 + (6 : Int32)) (L' := [some (vR 63 0), some (vR 0 0), some (vR 11 0), some (vI (a3 + (6 : Int32)))]) d_L_law_1305 rfl (congrArg (a3 + ·) (by decide)) (by decide) rfl ?_
    refine ev_goto (tgt := 18) d_L_law_1308 rfl ?_
    exact K
  · replace K := K.2 h9
    refine ev_iconst (v := 0) d_L_law_332 (by decide) ?_
    exact ev_ret (r := some (vI (0 : Int32))) d_L_law_333 rfl ⟨rfl, (by decide)⟩ K
set_option maxRecDepth 4000 in
theorem sg_L_law_334 {d n : Nat} {xs : Nat → Int32} {σ : ST} {a3 : Int32} {post : Option AV → ST → Prop} (K : (vp_in (a3 + (1 : Int32)) n) ∧ ((vp_in (a3 + (2 : Int32)) n) ∧ ((vp_in (a3 + (3 : Int32)) n) ∧ (Ev none (d + 7) m_O_like 0 [some (vR 0 0), some (vI (xs ((a3 + (1 : Int32)).toNatClampNeg))), some (vI (xs ((a3 + (2 : Int32)).toNatClampNeg))), some (vI (xs ((a3 + (3 : Int32)).toNatClampNeg)))] [] σ (fun r s4 => ∃ z5 : Int32, r = some (vI z5) ∧ ((vp_in (a3 + (1 : Int32)) n) ∧ ((vp_in (a3 + (2 : Int32)) n) ∧ ((vp_in (a3 + (3 : Int32)) n) ∧ (Ev none (d + 7) m_M_like 0 [some (vR 11 0), some (vI (xs ((a3 + (1 : Int32)).toNatClampNeg))), some (vI (xs ((a3 + (2 : Int32)).toNatClampNeg))), some (vI (xs ((a3 + (3 : Int32)).toNatClampNeg))), none] [] s4 (fun r s9 => ∃ z10 : Int32, r = some (vI z10) ∧ (((z5 = z10) → (Ev (some (n, xs)) (d + 8) m_L_law 18 [some (vR 63 0), some (vR 0 0), some (vR 11 0), some (vI (a3 + (6 : Int32)))] [] s9 post)) ∧ (¬ (z5 = z10) → (post (some (vI (0 : Int32))) s9))))))))))))) : Ev (some (n, xs)) (d + 8) m_L_law 334 [some (vR 63 0), some (vR 0 0), some (vR 11 0), some (vI a3)] [] σ post := by
  refine ev_aload_n d_L_law_334 rfl rfl ?_
  refine ev_aload_n d_L_law_335 rfl rfl ?_
  refine ev_iload_n d_L_law_336 rfl rfl ?_
  refine ev_iconst (v := 1) d_L_law_337 (by decide) ?_
  refine ev_iadd d_L_law_338 ?_
  obtain ⟨q1, K⟩ := K
  refine ev_sld q1 d_L_law_339 ?_
  refine ev_aload_n d_L_law_340 rfl rfl ?_
  refine ev_iload_n d_L_law_341 rfl rfl ?_
  refine ev_iconst (v := 2) d_L_law_342 (by decide) ?_
  refine ev_iadd d_L_law_343 ?_
  obtain ⟨q2, K⟩ := K
  refine ev_sld q2 d_L_law_344 ?_
  refine ev_aload_n d_L_law_345 rfl rfl ?_
  refine ev_iload_n d_L_law_346 rfl rfl ?_
  refine ev_iconst (v := 3) d_L_law_347 (by decide) ?_
  refine ev_iadd d_L_law_348 ?_
  obtain ⟨q3, K⟩ := K
  refine ev_sld q3 d_L_law_349 ?_
  refine ev_callV (as := [vI (xs ((a3 + (1 : Int32)).toNatClampNeg)), vI (xs ((a3 + (2 : Int32)).toNatClampNeg)), vI (xs ((a3 + (3 : Int32)).toNatClampNeg))]) (st := []) (k := 0) (i := 0) g_O_like ml_L_41 rfl rfl (by decide) (by decide) d_L_law_350 rfl rfl (Nat.le_of_ble_eq_true rfl) rfl (Nat.le_of_ble_eq_true rfl) ?_
  refine Ev.mono K ?_
  rintro _ s4 ⟨z5, rfl, K⟩
  show Ev (some (n, xs)) (d + 8) m_L_law 353 [some (vR 63 0), some (vR 0 0), some (vR 11 0), some (vI a3)] [vI z5] s4 post
  refine ev_aload_n d_L_law_353 rfl rfl ?_
  refine ev_aload_n d_L_law_354 rfl rfl ?_
  refine ev_iload_n d_L_law_355 rfl rfl ?_
  refine ev_iconst (v := 1) d_L_law_356 (by decide) ?_
  refine ev_iadd d_L_law_357 ?_
  obtain ⟨q6, K⟩ := K
  refine ev_sld q6 d_L_law_358 ?_
  refine ev_aload_n d_L_law_359 rfl rfl ?_
  refine ev_iload_n d_L_law_360 rfl rfl ?_
  refine ev_iconst (v := 2) d_L_law_361 (by decide) ?_
  refine ev_iadd d_L_law_362 ?_
  obtain ⟨q7, K⟩ := K
  refine ev_sld q7 d_L_law_363 ?_
  refine ev_aload_n d_L_law_364 rfl rfl ?_
  refine ev_iload_n d_L_law_365 rfl rfl ?_
  refine ev_iconst (v := 3) d_L_law_366 (by decide) ?_
  refine ev_iadd d_L_law_367 ?_
  obtain ⟨q8, K⟩ := K
  refine ev_sld q8 d_L_law_368 ?_
  refine ev_callV (as := [vI (xs ((a3 + (1 : Int32)).toNatClampNeg)), vI (xs ((a3 + (2 : Int32)).toNatClampNeg)), vI (xs ((a3 + (3 : Int32)).toNatClampNeg))]) (st := [vI z5]) (k := 11) (i := 0) g_M_like ml_L_44 rfl rfl (by decide) (by decide) d_L_law_369 rfl rfl (Nat.le_of_ble_eq_true rfl) rfl (Nat.le_of_ble_eq_true rfl) ?_
  refine Ev.mono K ?_
  rintro _ s9 ⟨z10, rfl, K⟩
  show Ev (some (n, xs)) (d + 8) m_L_law 372 [some (vR 63 0), some (vR 0 0), some (vR 11 0), some (vI a3)] [vI z10, vI z5] s9 post
  refine ev_icmp_eq (tgt := 1305) d_L_law_372 rfl (fun h11 => ?_) (fun h11 => ?_)
  · replace K := K.1 h11
    refine ev_iinc (v := a3 + (6 : Int32)) (L' := [some (vR 63 0), some (vR 0 0), some (vR 11 0), some (vI (a3 + (6 : Int32)))]) d_L_law_1305 rfl (congrArg (a3 + ·) (by decide)) (by decide) rfl ?_
    refine ev_goto (tgt := 18) d_L_law_1308 rfl ?_
    exact K
  · replace K := K.2 h11
    refine ev_iconst (v := 0) d_L_law_375 (by decide) ?_
    exact ev_ret (r := some (vI (0 : Int32))) d_L_law_376 rfl ⟨rfl, (by decide)⟩ K
set_option maxRecDepth 4000 in
theorem sg_L_law_377 {d n : Nat} {xs : Nat → Int32} {σ : ST} {a3 : Int32} {post : Option AV → ST → Prop} (K : (vp_in (a3 + (1 : Int32)) n) ∧ ((vp_in (a3 + (2 : Int32)) n) ∧ (Ev none (d + 7) m_O_skip 0 [some (vR 0 0), some (vI (xs ((a3 + (1 : Int32)).toNatClampNeg))), some (vI (xs ((a3 + (2 : Int32)).toNatClampNeg)))] [] σ (fun r s3 => ∃ z4 : Int32, r = some (vI z4) ∧ ((vp_in (a3 + (1 : Int32)) n) ∧ ((vp_in (a3 + (2 : Int32)) n) ∧ (Ev none (d + 7) m_M_skip 0 [some (vR 11 0), some (vI (xs ((a3 + (1 : Int32)).toNatClampNeg))), some (vI (xs ((a3 + (2 : Int32)).toNatClampNeg))), none] [] s3 (fun r s7 => ∃ z8 : Int32, r = some (vI z8) ∧ (((z4 = z8) → (Ev (some (n, xs)) (d + 8) m_L_law 18 [some (vR 63 0), some (vR 0 0), some (vR 11 0), some (vI (a3 + (6 : Int32)))] [] s7 post)) ∧ (¬ (z4 = z8) → (post (some (vI (0 : Int32))) s7))))))))))) : Ev (some (n, xs)) (d + 8) m_L_law 377 [some (vR 63 0), some (vR 0 0), some (vR 11 0), some (vI a3)] [] σ post := by
  refine ev_aload_n d_L_law_377 rfl rfl ?_
  refine ev_aload_n d_L_law_378 rfl rfl ?_
  refine ev_iload_n d_L_law_379 rfl rfl ?_
  refine ev_iconst (v := 1) d_L_law_380 (by decide) ?_
  refine ev_iadd d_L_law_381 ?_
  obtain ⟨q1, K⟩ := K
  refine ev_sld q1 d_L_law_382 ?_
  refine ev_aload_n d_L_law_383 rfl rfl ?_
  refine ev_iload_n d_L_law_384 rfl rfl ?_
  refine ev_iconst (v := 2) d_L_law_385 (by decide) ?_
  refine ev_iadd d_L_law_386 ?_
  obtain ⟨q2, K⟩ := K
  refine ev_sld q2 d_L_law_387 ?_
  refine ev_callV (as := [vI (xs ((a3 + (1 : Int32)).toNatClampNeg)), vI (xs ((a3 + (2 : Int32)).toNatClampNeg))]) (st := []) (k := 0) (i := 0) g_O_skip ml_L_45 rfl rfl (by decide) (by decide) d_L_law_388 rfl rfl (Nat.le_of_ble_eq_true rfl) rfl (Nat.le_of_ble_eq_true rfl) ?_
  refine Ev.mono K ?_
  rintro _ s3 ⟨z4, rfl, K⟩
  show Ev (some (n, xs)) (d + 8) m_L_law 391 [some (vR 63 0), some (vR 0 0), some (vR 11 0), some (vI a3)] [vI z4] s3 post
  refine ev_aload_n d_L_law_391 rfl rfl ?_
  refine ev_aload_n d_L_law_392 rfl rfl ?_
  refine ev_iload_n d_L_law_393 rfl rfl ?_
  refine ev_iconst (v := 1) d_L_law_394 (by decide) ?_
  refine ev_iadd d_L_law_395 ?_
  obtain ⟨q5, K⟩ := K
  refine ev_sld q5 d_L_law_396 ?_
  refine ev_aload_n d_L_law_397 rfl rfl ?_
  refine ev_iload_n d_L_law_398 rfl rfl ?_
  refine ev_iconst (v := 2) d_L_law_399 (by decide) ?_
  refine ev_iadd d_L_law_400 ?_
  obtain ⟨q6, K⟩ := K
  refine ev_sld q6 d_L_law_401 ?_
  refine ev_callV (as := [vI (xs ((a3 + (1 : Int32)).toNatClampNeg)), vI (xs ((a3 + (2 : Int32)).toNatClampNeg))]) (st := [vI z4]) (k := 11) (i := 0) g_M_skip ml_L_48 rfl rfl (by decide) (by decide) d_L_law_402 rfl rfl (Nat.le_of_ble_eq_true rfl) rfl (Nat.le_of_ble_eq_true rfl) ?_
  refine Ev.mono K ?_
  rintro _ s7 ⟨z8, rfl, K⟩
  show Ev (some (n, xs)) (d + 8) m_L_law 405 [some (vR 63 0), some (vR 0 0), some (vR 11 0), some (vI a3)] [vI z8, vI z4] s7 post
  refine ev_icmp_eq (tgt := 1305) d_L_law_405 rfl (fun h9 => ?_) (fun h9 => ?_)
  · replace K := K.1 h9
    refine ev_iinc (v := a3 + (6 : Int32)) (L' := [some (vR 63 0), some (vR 0 0), some (vR 11 0), some (vI (a3 + (6 : Int32)))]) d_L_law_1305 rfl (congrArg (a3 + ·) (by decide)) (by decide) rfl ?_
    refine ev_goto (tgt := 18) d_L_law_1308 rfl ?_
    exact K
  · replace K := K.2 h9
    refine ev_iconst (v := 0) d_L_law_408 (by decide) ?_
    exact ev_ret (r := some (vI (0 : Int32))) d_L_law_409 rfl ⟨rfl, (by decide)⟩ K
set_option maxRecDepth 4000 in
theorem sg_L_law_410 {d n : Nat} {xs : Nat → Int32} {σ : ST} {a3 : Int32} {post : Option AV → ST → Prop} (K : (vp_in (a3 + (1 : Int32)) n) ∧ ((vp_in (a3 + (2 : Int32)) n) ∧ ((vp_in (a3 + (3 : Int32)) n) ∧ (Ev none (d + 7) m_O_reader 0 [some (vR 0 0), some (vI (xs ((a3 + (1 : Int32)).toNatClampNeg))), some (vI (xs ((a3 + (2 : Int32)).toNatClampNeg))), some (vI (xs ((a3 + (3 : Int32)).toNatClampNeg)))] [] σ (fun r s4 => ∃ z5 : Int32, r = some (vI z5) ∧ ((vp_in (a3 + (1 : Int32)) n) ∧ ((vp_in (a3 + (2 : Int32)) n) ∧ ((vp_in (a3 + (3 : Int32)) n) ∧ (Ev none (d + 7) m_M_reader 0 [some (vR 11 0), some (vI (xs ((a3 + (1 : Int32)).toNatClampNeg))), some (vI (xs ((a3 + (2 : Int32)).toNatClampNeg))), some (vI (xs ((a3 + (3 : Int32)).toNatClampNeg))), none] [] s4 (fun r s9 => ∃ z10 : Int32, r = some (vI z10) ∧ (((z5 = z10) → (Ev (some (n, xs)) (d + 8) m_L_law 18 [some (vR 63 0), some (vR 0 0), some (vR 11 0), some (vI (a3 + (6 : Int32)))] [] s9 post)) ∧ (¬ (z5 = z10) → (post (some (vI (0 : Int32))) s9))))))))))))) : Ev (some (n, xs)) (d + 8) m_L_law 410 [some (vR 63 0), some (vR 0 0), some (vR 11 0), some (vI a3)] [] σ post := by
  refine ev_aload_n d_L_law_410 rfl rfl ?_
  refine ev_aload_n d_L_law_411 rfl rfl ?_
  refine ev_iload_n d_L_law_412 rfl rfl ?_
  refine ev_iconst (v := 1) d_L_law_413 (by decide) ?_
  refine ev_iadd d_L_law_414 ?_
  obtain ⟨q1, K⟩ := K
  refine ev_sld q1 d_L_law_415 ?_
  refine ev_aload_n d_L_law_416 rfl rfl ?_
  refine ev_iload_n d_L_law_417 rfl rfl ?_
  refine ev_iconst (v := 2) d_L_law_418 (by decide) ?_
  refine ev_iadd d_L_law_419 ?_
  obtain ⟨q2, K⟩ := K
  refine ev_sld q2 d_L_law_420 ?_
  refine ev_aload_n d_L_law_421 rfl rfl ?_
  refine ev_iload_n d_L_law_422 rfl rfl ?_
  refine ev_iconst (v := 3) d_L_law_423 (by decide) ?_
  refine ev_iadd d_L_law_424 ?_
  obtain ⟨q3, K⟩ := K
  refine ev_sld q3 d_L_law_425 ?_
  refine ev_callV (as := [vI (xs ((a3 + (1 : Int32)).toNatClampNeg)), vI (xs ((a3 + (2 : Int32)).toNatClampNeg)), vI (xs ((a3 + (3 : Int32)).toNatClampNeg))]) (st := []) (k := 0) (i := 0) g_O_reader ml_L_49 rfl rfl (by decide) (by decide) d_L_law_426 rfl rfl (Nat.le_of_ble_eq_true rfl) rfl (Nat.le_of_ble_eq_true rfl) ?_
  refine Ev.mono K ?_
  rintro _ s4 ⟨z5, rfl, K⟩
  show Ev (some (n, xs)) (d + 8) m_L_law 429 [some (vR 63 0), some (vR 0 0), some (vR 11 0), some (vI a3)] [vI z5] s4 post
  refine ev_aload_n d_L_law_429 rfl rfl ?_
  refine ev_aload_n d_L_law_430 rfl rfl ?_
  refine ev_iload_n d_L_law_431 rfl rfl ?_
  refine ev_iconst (v := 1) d_L_law_432 (by decide) ?_
  refine ev_iadd d_L_law_433 ?_
  obtain ⟨q6, K⟩ := K
  refine ev_sld q6 d_L_law_434 ?_
  refine ev_aload_n d_L_law_435 rfl rfl ?_
  refine ev_iload_n d_L_law_436 rfl rfl ?_
  refine ev_iconst (v := 2) d_L_law_437 (by decide) ?_
  refine ev_iadd d_L_law_438 ?_
  obtain ⟨q7, K⟩ := K
  refine ev_sld q7 d_L_law_439 ?_
  refine ev_aload_n d_L_law_440 rfl rfl ?_
  refine ev_iload_n d_L_law_441 rfl rfl ?_
  refine ev_iconst (v := 3) d_L_law_442 (by decide) ?_
  refine ev_iadd d_L_law_443 ?_
  obtain ⟨q8, K⟩ := K
  refine ev_sld q8 d_L_law_444 ?_
  refine ev_callV (as := [vI (xs ((a3 + (1 : Int32)).toNatClampNeg)), vI (xs ((a3 + (2 : Int32)).toNatClampNeg)), vI (xs ((a3 + (3 : Int32)).toNatClampNeg))]) (st := [vI z5]) (k := 11) (i := 0) g_M_reader ml_L_52 rfl rfl (by decide) (by decide) d_L_law_445 rfl rfl (Nat.le_of_ble_eq_true rfl) rfl (Nat.le_of_ble_eq_true rfl) ?_
  refine Ev.mono K ?_
  rintro _ s9 ⟨z10, rfl, K⟩
  show Ev (some (n, xs)) (d + 8) m_L_law 448 [some (vR 63 0), some (vR 0 0), some (vR 11 0), some (vI a3)] [vI z10, vI z5] s9 post
  refine ev_icmp_eq (tgt := 1305) d_L_law_448 rfl (fun h11 => ?_) (fun h11 => ?_)
  · replace K := K.1 h11
    refine ev_iinc (v := a3 + (6 : Int32)) (L' := [some (vR 63 0), some (vR 0 0), some (vR 11 0), some (vI (a3 + (6 : Int32)))]) d_L_law_1305 rfl (congrArg (a3 + ·) (by decide)) (by decide) rfl ?_
    refine ev_goto (tgt := 18) d_L_law_1308 rfl ?_
    exact K
  · replace K := K.2 h11
    refine ev_iconst (v := 0) d_L_law_451 (by decide) ?_
    exact ev_ret (r := some (vI (0 : Int32))) d_L_law_452 rfl ⟨rfl, (by decide)⟩ K
set_option maxRecDepth 4000 in
theorem sg_L_law_453 {d n : Nat} {xs : Nat → Int32} {σ : ST} {a3 : Int32} {post : Option AV → ST → Prop} (K : (vp_in (a3 + (1 : Int32)) n) ∧ ((vp_in (a3 + (2 : Int32)) n) ∧ (Ev none (d + 7) m_O_set 0 [some (vR 0 0), some (vI (xs ((a3 + (1 : Int32)).toNatClampNeg))), some (vI (xs ((a3 + (2 : Int32)).toNatClampNeg))), none] [] σ (fun r s3 => ∃ z4 : Int32, r = some (vI z4) ∧ ((vp_in (a3 + (1 : Int32)) n) ∧ ((vp_in (a3 + (2 : Int32)) n) ∧ (Ev none (d + 7) m_M_set 0 [some (vR 11 0), some (vI (xs ((a3 + (1 : Int32)).toNatClampNeg))), some (vI (xs ((a3 + (2 : Int32)).toNatClampNeg))), none] [] s3 (fun r s7 => ∃ z8 : Int32, r = some (vI z8) ∧ (((z4 = z8) → (Ev (some (n, xs)) (d + 8) m_L_law 18 [some (vR 63 0), some (vR 0 0), some (vR 11 0), some (vI (a3 + (6 : Int32)))] [] s7 post)) ∧ (¬ (z4 = z8) → (post (some (vI (0 : Int32))) s7))))))))))) : Ev (some (n, xs)) (d + 8) m_L_law 453 [some (vR 63 0), some (vR 0 0), some (vR 11 0), some (vI a3)] [] σ post := by
  refine ev_aload_n d_L_law_453 rfl rfl ?_
  refine ev_aload_n d_L_law_454 rfl rfl ?_
  refine ev_iload_n d_L_law_455 rfl rfl ?_
  refine ev_iconst (v := 1) d_L_law_456 (by decide) ?_
  refine ev_iadd d_L_law_457 ?_
  obtain ⟨q1, K⟩ := K
  refine ev_sld q1 d_L_law_458 ?_
  refine ev_aload_n d_L_law_459 rfl rfl ?_
  refine ev_iload_n d_L_law_460 rfl rfl ?_
  refine ev_iconst (v := 2) d_L_law_461 (by decide) ?_
  refine ev_iadd d_L_law_462 ?_
  obtain ⟨q2, K⟩ := K
  refine ev_sld q2 d_L_law_463 ?_
  refine ev_callV (as := [vI (xs ((a3 + (1 : Int32)).toNatClampNeg)), vI (xs ((a3 + (2 : Int32)).toNatClampNeg))]) (st := []) (k := 0) (i := 0) g_O_set ml_L_53 rfl rfl (by decide) (by decide) d_L_law_464 rfl rfl (Nat.le_of_ble_eq_true rfl) rfl (Nat.le_of_ble_eq_true rfl) ?_
  refine Ev.mono K ?_
  rintro _ s3 ⟨z4, rfl, K⟩
  show Ev (some (n, xs)) (d + 8) m_L_law 467 [some (vR 63 0), some (vR 0 0), some (vR 11 0), some (vI a3)] [vI z4] s3 post
  refine ev_aload_n d_L_law_467 rfl rfl ?_
  refine ev_aload_n d_L_law_468 rfl rfl ?_
  refine ev_iload_n d_L_law_469 rfl rfl ?_
  refine ev_iconst (v := 1) d_L_law_470 (by decide) ?_
  refine ev_iadd d_L_law_471 ?_
  obtain ⟨q5, K⟩ := K
  refine ev_sld q5 d_L_law_472 ?_
  refine ev_aload_n d_L_law_473 rfl rfl ?_
  refine ev_iload_n d_L_law_474 rfl rfl ?_
  refine ev_iconst (v := 2) d_L_law_475 (by decide) ?_
  refine ev_iadd d_L_law_476 ?_
  obtain ⟨q6, K⟩ := K
  refine ev_sld q6 d_L_law_477 ?_
  refine ev_callV (as := [vI (xs ((a3 + (1 : Int32)).toNatClampNeg)), vI (xs ((a3 + (2 : Int32)).toNatClampNeg))]) (st := [vI z4]) (k := 11) (i := 0) g_M_set ml_L_56 rfl rfl (by decide) (by decide) d_L_law_478 rfl rfl (Nat.le_of_ble_eq_true rfl) rfl (Nat.le_of_ble_eq_true rfl) ?_
  refine Ev.mono K ?_
  rintro _ s7 ⟨z8, rfl, K⟩
  show Ev (some (n, xs)) (d + 8) m_L_law 481 [some (vR 63 0), some (vR 0 0), some (vR 11 0), some (vI a3)] [vI z8, vI z4] s7 post
  refine ev_icmp_eq (tgt := 1305) d_L_law_481 rfl (fun h9 => ?_) (fun h9 => ?_)
  · replace K := K.1 h9
    refine ev_iinc (v := a3 + (6 : Int32)) (L' := [some (vR 63 0), some (vR 0 0), some (vR 11 0), some (vI (a3 + (6 : Int32)))]) d_L_law_1305 rfl (congrArg (a3 + ·) (by decide)) (by decide) rfl ?_
    refine ev_goto (tgt := 18) d_L_law_1308 rfl ?_
    exact K
  · replace K := K.2 h9
    refine ev_iconst (v := 0) d_L_law_484 (by decide) ?_
    exact ev_ret (r := some (vI (0 : Int32))) d_L_law_485 rfl ⟨rfl, (by decide)⟩ K
set_option maxRecDepth 4000 in
theorem sg_L_law_486 {d n : Nat} {xs : Nat → Int32} {σ : ST} {a3 : Int32} {post : Option AV → ST → Prop} (K : (vp_in (a3 + (1 : Int32)) n) ∧ ((vp_in (a3 + (2 : Int32)) n) ∧ ((fs_O_time σ (xs ((a3 + (1 : Int32)).toNatClampNeg)) (xs ((a3 + (2 : Int32)).toNatClampNeg))) ∧ ((vp_in (a3 + (1 : Int32)) n) ∧ ((vp_in (a3 + (2 : Int32)) n) ∧ (Ev none (d + 7) m_M_time 0 [some (vR 11 0), some (vI (xs ((a3 + (1 : Int32)).toNatClampNeg))), some (vI (xs ((a3 + (2 : Int32)).toNatClampNeg)))] [] σ (fun r s6 => ∃ z7 : Int32, r = some (vI z7) ∧ ((((fn_O_time σ (xs ((a3 + (1 : Int32)).toNatClampNeg)) (xs ((a3 + (2 : Int32)).toNatClampNeg))) = z7) → (Ev (some (n, xs)) (d + 8) m_L_law 18 [some (vR 63 0), some (vR 0 0), some (vR 11 0), some (vI (a3 + (6 : Int32)))] [] s6 post)) ∧ (¬ ((fn_O_time σ (xs ((a3 + (1 : Int32)).toNatClampNeg)) (xs ((a3 + (2 : Int32)).toNatClampNeg))) = z7) → (post (some (vI (0 : Int32))) s6)))))))))) : Ev (some (n, xs)) (d + 8) m_L_law 486 [some (vR 63 0), some (vR 0 0), some (vR 11 0), some (vI a3)] [] σ post := by
  refine ev_aload_n d_L_law_486 rfl rfl ?_
  refine ev_aload_n d_L_law_487 rfl rfl ?_
  refine ev_iload_n d_L_law_488 rfl rfl ?_
  refine ev_iconst (v := 1) d_L_law_489 (by decide) ?_
  refine ev_iadd d_L_law_490 ?_
  obtain ⟨q1, K⟩ := K
  refine ev_sld q1 d_L_law_491 ?_
  refine ev_aload_n d_L_law_492 rfl rfl ?_
  refine ev_iload_n d_L_law_493 rfl rfl ?_
  refine ev_iconst (v := 2) d_L_law_494 (by decide) ?_
  refine ev_iadd d_L_law_495 ?_
  obtain ⟨q2, K⟩ := K
  refine ev_sld q2 d_L_law_496 ?_
  obtain ⟨q3, K⟩ := K
  refine ev_callV (as := [vI (xs ((a3 + (1 : Int32)).toNatClampNeg)), vI (xs ((a3 + (2 : Int32)).toNatClampNeg))]) (st := []) (k := 0) (i := 0) g_O_time ml_L_57 rfl rfl (by decide) (by decide) d_L_law_497 rfl rfl (Nat.le_of_ble_eq_true rfl) rfl (Nat.le_of_ble_eq_true rfl) ?_
  refine f_O_time q3 ?_
  show Ev (some (n, xs)) (d + 8) m_L_law 500 [some (vR 63 0), some (vR 0 0), some (vR 11 0), some (vI a3)] [vI (fn_O_time σ (xs ((a3 + (1 : Int32)).toNatClampNeg)) (xs ((a3 + (2 : Int32)).toNatClampNeg)))] σ post
  refine ev_aload_n d_L_law_500 rfl rfl ?_
  refine ev_aload_n d_L_law_501 rfl rfl ?_
  refine ev_iload_n d_L_law_502 rfl rfl ?_
  refine ev_iconst (v := 1) d_L_law_503 (by decide) ?_
  refine ev_iadd d_L_law_504 ?_
  obtain ⟨q4, K⟩ := K
  refine ev_sld q4 d_L_law_505 ?_
  refine ev_aload_n d_L_law_506 rfl rfl ?_
  refine ev_iload_n d_L_law_507 rfl rfl ?_
  refine ev_iconst (v := 2) d_L_law_508 (by decide) ?_
  refine ev_iadd d_L_law_509 ?_
  obtain ⟨q5, K⟩ := K
  refine ev_sld q5 d_L_law_510 ?_
  refine ev_callV (as := [vI (xs ((a3 + (1 : Int32)).toNatClampNeg)), vI (xs ((a3 + (2 : Int32)).toNatClampNeg))]) (st := [vI (fn_O_time σ (xs ((a3 + (1 : Int32)).toNatClampNeg)) (xs ((a3 + (2 : Int32)).toNatClampNeg)))]) (k := 11) (i := 0) g_M_time ml_L_60 rfl rfl (by decide) (by decide) d_L_law_511 rfl rfl (Nat.le_of_ble_eq_true rfl) rfl (Nat.le_of_ble_eq_true rfl) ?_
  refine Ev.mono K ?_
  rintro _ s6 ⟨z7, rfl, K⟩
  show Ev (some (n, xs)) (d + 8) m_L_law 514 [some (vR 63 0), some (vR 0 0), some (vR 11 0), some (vI a3)] [vI z7, vI (fn_O_time σ (xs ((a3 + (1 : Int32)).toNatClampNeg)) (xs ((a3 + (2 : Int32)).toNatClampNeg)))] s6 post
  refine ev_icmp_eq (tgt := 1305) d_L_law_514 rfl (fun h8 => ?_) (fun h8 => ?_)
  · replace K := K.1 h8
    refine ev_iinc (v := a3 + (6 : Int32)) (L' := [some (vR 63 0), some (vR 0 0), some (vR 11 0), some (vI (a3 + (6 : Int32)))]) d_L_law_1305 rfl (congrArg (a3 + ·) (by decide)) (by decide) rfl ?_
    refine ev_goto (tgt := 18) d_L_law_1308 rfl ?_
    exact K
  · replace K := K.2 h8
    refine ev_iconst (v := 0) d_L_law_517 (by decide) ?_
    exact ev_ret (r := some (vI (0 : Int32))) d_L_law_518 rfl ⟨rfl, (by decide)⟩ K
set_option maxRecDepth 4000 in
theorem sg_L_law_519 {d n : Nat} {xs : Nat → Int32} {σ : ST} {a3 : Int32} {post : Option AV → ST → Prop} (K : (vp_in (a3 + (1 : Int32)) n) ∧ ((vp_in (a3 + (2 : Int32)) n) ∧ ((vp_in (a3 + (3 : Int32)) n) ∧ (Ev none (d + 7) m_O_evening 0 [some (vR 0 0), some (vI (xs ((a3 + (1 : Int32)).toNatClampNeg))), some (vI (xs ((a3 + (2 : Int32)).toNatClampNeg))), some (vI (xs ((a3 + (3 : Int32)).toNatClampNeg)))] [] σ (fun r s4 => ∃ z5 : Int32, r = some (vI z5) ∧ ((vp_in (a3 + (1 : Int32)) n) ∧ ((vp_in (a3 + (2 : Int32)) n) ∧ ((vp_in (a3 + (3 : Int32)) n) ∧ (Ev none (d + 7) m_M_evening 0 [some (vR 11 0), some (vI (xs ((a3 + (1 : Int32)).toNatClampNeg))), some (vI (xs ((a3 + (2 : Int32)).toNatClampNeg))), some (vI (xs ((a3 + (3 : Int32)).toNatClampNeg)))] [] s4 (fun r s9 => ∃ z10 : Int32, r = some (vI z10) ∧ (((z5 = z10) → (Ev (some (n, xs)) (d + 8) m_L_law 18 [some (vR 63 0), some (vR 0 0), some (vR 11 0), some (vI (a3 + (6 : Int32)))] [] s9 post)) ∧ (¬ (z5 = z10) → (post (some (vI (0 : Int32))) s9))))))))))))) : Ev (some (n, xs)) (d + 8) m_L_law 519 [some (vR 63 0), some (vR 0 0), some (vR 11 0), some (vI a3)] [] σ post := by
  refine ev_aload_n d_L_law_519 rfl rfl ?_
  refine ev_aload_n d_L_law_520 rfl rfl ?_
  refine ev_iload_n d_L_law_521 rfl rfl ?_
  refine ev_iconst (v := 1) d_L_law_522 (by decide) ?_
  refine ev_iadd d_L_law_523 ?_
  obtain ⟨q1, K⟩ := K
  refine ev_sld q1 d_L_law_524 ?_
  refine ev_aload_n d_L_law_525 rfl rfl ?_
  refine ev_iload_n d_L_law_526 rfl rfl ?_
  refine ev_iconst (v := 2) d_L_law_527 (by decide) ?_
  refine ev_iadd d_L_law_528 ?_
  obtain ⟨q2, K⟩ := K
  refine ev_sld q2 d_L_law_529 ?_
  refine ev_aload_n d_L_law_530 rfl rfl ?_
  refine ev_iload_n d_L_law_531 rfl rfl ?_
  refine ev_iconst (v := 3) d_L_law_532 (by decide) ?_
  refine ev_iadd d_L_law_533 ?_
  obtain ⟨q3, K⟩ := K
  refine ev_sld q3 d_L_law_534 ?_
  refine ev_callV (as := [vI (xs ((a3 + (1 : Int32)).toNatClampNeg)), vI (xs ((a3 + (2 : Int32)).toNatClampNeg)), vI (xs ((a3 + (3 : Int32)).toNatClampNeg))]) (st := []) (k := 0) (i := 0) g_O_evening ml_L_61 rfl rfl (by decide) (by decide) d_L_law_535 rfl rfl (Nat.le_of_ble_eq_true rfl) rfl (Nat.le_of_ble_eq_true rfl) ?_
  refine Ev.mono K ?_
  rintro _ s4 ⟨z5, rfl, K⟩
  show Ev (some (n, xs)) (d + 8) m_L_law 538 [some (vR 63 0), some (vR 0 0), some (vR 11 0), some (vI a3)] [vI z5] s4 post
  refine ev_aload_n d_L_law_538 rfl rfl ?_
  refine ev_aload_n d_L_law_539 rfl rfl ?_
  refine ev_iload_n d_L_law_540 rfl rfl ?_
  refine ev_iconst (v := 1) d_L_law_541 (by decide) ?_
  refine ev_iadd d_L_law_542 ?_
  obtain ⟨q6, K⟩ := K
  refine ev_sld q6 d_L_law_543 ?_
  refine ev_aload_n d_L_law_544 rfl rfl ?_
  refine ev_iload_n d_L_law_545 rfl rfl ?_
  refine ev_iconst (v := 2) d_L_law_546 (by decide) ?_
  refine ev_iadd d_L_law_547 ?_
  obtain ⟨q7, K⟩ := K
  refine ev_sld q7 d_L_law_548 ?_
  refine ev_aload_n d_L_law_549 rfl rfl ?_
  refine ev_iload_n d_L_law_550 rfl rfl ?_
  refine ev_iconst (v := 3) d_L_law_551 (by decide) ?_
  refine ev_iadd d_L_law_552 ?_
  obtain ⟨q8, K⟩ := K
  refine ev_sld q8 d_L_law_553 ?_
  refine ev_callV (as := [vI (xs ((a3 + (1 : Int32)).toNatClampNeg)), vI (xs ((a3 + (2 : Int32)).toNatClampNeg)), vI (xs ((a3 + (3 : Int32)).toNatClampNeg))]) (st := [vI z5]) (k := 11) (i := 0) g_M_evening ml_L_64 rfl rfl (by decide) (by decide) d_L_law_554 rfl rfl (Nat.le_of_ble_eq_true rfl) rfl (Nat.le_of_ble_eq_true rfl) ?_
  refine Ev.mono K ?_
  rintro _ s9 ⟨z10, rfl, K⟩
  show Ev (some (n, xs)) (d + 8) m_L_law 557 [some (vR 63 0), some (vR 0 0), some (vR 11 0), some (vI a3)] [vI z10, vI z5] s9 post
  refine ev_icmp_eq (tgt := 1305) d_L_law_557 rfl (fun h11 => ?_) (fun h11 => ?_)
  · replace K := K.1 h11
    refine ev_iinc (v := a3 + (6 : Int32)) (L' := [some (vR 63 0), some (vR 0 0), some (vR 11 0), some (vI (a3 + (6 : Int32)))]) d_L_law_1305 rfl (congrArg (a3 + ·) (by decide)) (by decide) rfl ?_
    refine ev_goto (tgt := 18) d_L_law_1308 rfl ?_
    exact K
  · replace K := K.2 h11
    refine ev_iconst (v := 0) d_L_law_560 (by decide) ?_
    exact ev_ret (r := some (vI (0 : Int32))) d_L_law_561 rfl ⟨rfl, (by decide)⟩ K
set_option maxRecDepth 4000 in
theorem sg_L_law_562 {d n : Nat} {xs : Nat → Int32} {σ : ST} {a3 : Int32} {post : Option AV → ST → Prop} (K : (vp_in (a3 + (1 : Int32)) n) ∧ ((vp_in (a3 + (2 : Int32)) n) ∧ ((vp_in (a3 + (3 : Int32)) n) ∧ ((vp_in (a3 + (4 : Int32)) n) ∧ (Ev none (d + 7) m_O_waited 0 [some (vR 0 0), some (vI (xs ((a3 + (1 : Int32)).toNatClampNeg))), some (vI (xs ((a3 + (2 : Int32)).toNatClampNeg))), some (vI (xs ((a3 + (3 : Int32)).toNatClampNeg))), some (vI (xs ((a3 + (4 : Int32)).toNatClampNeg)))] [] σ (fun r s5 => ∃ z6 : Int32, r = some (vI z6) ∧ ((vp_in (a3 + (1 : Int32)) n) ∧ ((vp_in (a3 + (2 : Int32)) n) ∧ ((vp_in (a3 + (3 : Int32)) n) ∧ ((vp_in (a3 + (4 : Int32)) n) ∧ (Ev none (d + 7) m_M_waited 0 [some (vR 11 0), some (vI (xs ((a3 + (1 : Int32)).toNatClampNeg))), some (vI (xs ((a3 + (2 : Int32)).toNatClampNeg))), some (vI (xs ((a3 + (3 : Int32)).toNatClampNeg))), some (vI (xs ((a3 + (4 : Int32)).toNatClampNeg))), none] [] s5 (fun r s11 => ∃ z12 : Int32, r = some (vI z12) ∧ (((z6 = z12) → (Ev (some (n, xs)) (d + 8) m_L_law 18 [some (vR 63 0), some (vR 0 0), some (vR 11 0), some (vI (a3 + (6 : Int32)))] [] s11 post)) ∧ (¬ (z6 = z12) → (post (some (vI (0 : Int32))) s11))))))))))))))) : Ev (some (n, xs)) (d + 8) m_L_law 562 [some (vR 63 0), some (vR 0 0), some (vR 11 0), some (vI a3)] [] σ post := by
  refine ev_aload_n d_L_law_562 rfl rfl ?_
  refine ev_aload_n d_L_law_563 rfl rfl ?_
  refine ev_iload_n d_L_law_564 rfl rfl ?_
  refine ev_iconst (v := 1) d_L_law_565 (by decide) ?_
  refine ev_iadd d_L_law_566 ?_
  obtain ⟨q1, K⟩ := K
  refine ev_sld q1 d_L_law_567 ?_
  refine ev_aload_n d_L_law_568 rfl rfl ?_
  refine ev_iload_n d_L_law_569 rfl rfl ?_
  refine ev_iconst (v := 2) d_L_law_570 (by decide) ?_
  refine ev_iadd d_L_law_571 ?_
  obtain ⟨q2, K⟩ := K
  refine ev_sld q2 d_L_law_572 ?_
  refine ev_aload_n d_L_law_573 rfl rfl ?_
  refine ev_iload_n d_L_law_574 rfl rfl ?_
  refine ev_iconst (v := 3) d_L_law_575 (by decide) ?_
  refine ev_iadd d_L_law_576 ?_
  obtain ⟨q3, K⟩ := K
  refine ev_sld q3 d_L_law_577 ?_
  refine ev_aload_n d_L_law_578 rfl rfl ?_
  refine ev_iload_n d_L_law_579 rfl rfl ?_
  refine ev_iconst (v := 4) d_L_law_580 (by decide) ?_
  refine ev_iadd d_L_law_581 ?_
  obtain ⟨q4, K⟩ := K
  refine ev_sld q4 d_L_law_582 ?_
  refine ev_callV (as := [vI (xs ((a3 + (1 : Int32)).toNatClampNeg)), vI (xs ((a3 + (2 : Int32)).toNatClampNeg)), vI (xs ((a3 + (3 : Int32)).toNatClampNeg)), vI (xs ((a3 + (4 : Int32)).toNatClampNeg))]) (st := []) (k := 0) (i := 0) g_O_waited ml_L_65 rfl rfl (by decide) (by decide) d_L_law_583 rfl rfl (Nat.le_of_ble_eq_true rfl) rfl (Nat.le_of_ble_eq_true rfl) ?_
  refine Ev.mono K ?_
  rintro _ s5 ⟨z6, rfl, K⟩
  show Ev (some (n, xs)) (d + 8) m_L_law 586 [some (vR 63 0), some (vR 0 0), some (vR 11 0), some (vI a3)] [vI z6] s5 post
  refine ev_aload_n d_L_law_586 rfl rfl ?_
  refine ev_aload_n d_L_law_587 rfl rfl ?_
  refine ev_iload_n d_L_law_588 rfl rfl ?_
  refine ev_iconst (v := 1) d_L_law_589 (by decide) ?_
  refine ev_iadd d_L_law_590 ?_
  obtain ⟨q7, K⟩ := K
  refine ev_sld q7 d_L_law_591 ?_
  refine ev_aload_n d_L_law_592 rfl rfl ?_
  refine ev_iload_n d_L_law_593 rfl rfl ?_
  refine ev_iconst (v := 2) d_L_law_594 (by decide) ?_
  refine ev_iadd d_L_law_595 ?_
  obtain ⟨q8, K⟩ := K
  refine ev_sld q8 d_L_law_596 ?_
  refine ev_aload_n d_L_law_597 rfl rfl ?_
  refine ev_iload_n d_L_law_598 rfl rfl ?_
  refine ev_iconst (v := 3) d_L_law_599 (by decide) ?_
  refine ev_iadd d_L_law_600 ?_
  obtain ⟨q9, K⟩ := K
  refine ev_sld q9 d_L_law_601 ?_
  refine ev_aload_n d_L_law_602 rfl rfl ?_
  refine ev_iload_n d_L_law_603 rfl rfl ?_
  refine ev_iconst (v := 4) d_L_law_604 (by decide) ?_
  refine ev_iadd d_L_law_605 ?_
  obtain ⟨q10, K⟩ := K
  refine ev_sld q10 d_L_law_606 ?_
  refine ev_callV (as := [vI (xs ((a3 + (1 : Int32)).toNatClampNeg)), vI (xs ((a3 + (2 : Int32)).toNatClampNeg)), vI (xs ((a3 + (3 : Int32)).toNatClampNeg)), vI (xs ((a3 + (4 : Int32)).toNatClampNeg))]) (st := [vI z6]) (k := 11) (i := 0) g_M_waited ml_L_69 rfl rfl (by decide) (by decide) d_L_law_607 rfl rfl (Nat.le_of_ble_eq_true rfl) rfl (Nat.le_of_ble_eq_true rfl) ?_
  refine Ev.mono K ?_
  rintro _ s11 ⟨z12, rfl, K⟩
  show Ev (some (n, xs)) (d + 8) m_L_law 610 [some (vR 63 0), some (vR 0 0), some (vR 11 0), some (vI a3)] [vI z12, vI z6] s11 post
  refine ev_icmp_eq (tgt := 1305) d_L_law_610 rfl (fun h13 => ?_) (fun h13 => ?_)
  · replace K := K.1 h13
    refine ev_iinc (v := a3 + (6 : Int32)) (L' := [some (vR 63 0), some (vR 0 0), some (vR 11 0), some (vI (a3 + (6 : Int32)))]) d_L_law_1305 rfl (congrArg (a3 + ·) (by decide)) (by decide) rfl ?_
    refine ev_goto (tgt := 18) d_L_law_1308 rfl ?_
    exact K
  · replace K := K.2 h13
    refine ev_iconst (v := 0) d_L_law_613 (by decide) ?_
    exact ev_ret (r := some (vI (0 : Int32))) d_L_law_614 rfl ⟨rfl, (by decide)⟩ K
set_option maxRecDepth 4000 in
theorem sg_L_law_615 {d n : Nat} {xs : Nat → Int32} {σ : ST} {a3 : Int32} {post : Option AV → ST → Prop} (K : (vp_in (a3 + (1 : Int32)) n) ∧ ((vp_in (a3 + (2 : Int32)) n) ∧ ((vp_in (a3 + (3 : Int32)) n) ∧ (Ev none (d + 7) m_O_best 0 [some (vR 0 0), some (vI (xs ((a3 + (1 : Int32)).toNatClampNeg))), some (vI (xs ((a3 + (2 : Int32)).toNatClampNeg))), some (vI (xs ((a3 + (3 : Int32)).toNatClampNeg)))] [] σ (fun r s4 => ∃ z5 : Int32, r = some (vI z5) ∧ ((vp_in (a3 + (1 : Int32)) n) ∧ ((vp_in (a3 + (2 : Int32)) n) ∧ ((vp_in (a3 + (3 : Int32)) n) ∧ (Ev none (d + 7) m_M_best 0 [some (vR 11 0), some (vI (xs ((a3 + (1 : Int32)).toNatClampNeg))), some (vI (xs ((a3 + (2 : Int32)).toNatClampNeg))), some (vI (xs ((a3 + (3 : Int32)).toNatClampNeg)))] [] s4 (fun r s9 => ∃ z10 : Int32, r = some (vI z10) ∧ (((z5 = z10) → (Ev (some (n, xs)) (d + 8) m_L_law 18 [some (vR 63 0), some (vR 0 0), some (vR 11 0), some (vI (a3 + (6 : Int32)))] [] s9 post)) ∧ (¬ (z5 = z10) → (post (some (vI (0 : Int32))) s9))))))))))))) : Ev (some (n, xs)) (d + 8) m_L_law 615 [some (vR 63 0), some (vR 0 0), some (vR 11 0), some (vI a3)] [] σ post := by
  refine ev_aload_n d_L_law_615 rfl rfl ?_
  refine ev_aload_n d_L_law_616 rfl rfl ?_
  refine ev_iload_n d_L_law_617 rfl rfl ?_
  refine ev_iconst (v := 1) d_L_law_618 (by decide) ?_
  refine ev_iadd d_L_law_619 ?_
  obtain ⟨q1, K⟩ := K
  refine ev_sld q1 d_L_law_620 ?_
  refine ev_aload_n d_L_law_621 rfl rfl ?_
  refine ev_iload_n d_L_law_622 rfl rfl ?_
  refine ev_iconst (v := 2) d_L_law_623 (by decide) ?_
  refine ev_iadd d_L_law_624 ?_
  obtain ⟨q2, K⟩ := K
  refine ev_sld q2 d_L_law_625 ?_
  refine ev_aload_n d_L_law_626 rfl rfl ?_
  refine ev_iload_n d_L_law_627 rfl rfl ?_
  refine ev_iconst (v := 3) d_L_law_628 (by decide) ?_
  refine ev_iadd d_L_law_629 ?_
  obtain ⟨q3, K⟩ := K
  refine ev_sld q3 d_L_law_630 ?_
  refine ev_callV (as := [vI (xs ((a3 + (1 : Int32)).toNatClampNeg)), vI (xs ((a3 + (2 : Int32)).toNatClampNeg)), vI (xs ((a3 + (3 : Int32)).toNatClampNeg))]) (st := []) (k := 0) (i := 0) g_O_best ml_L_70 rfl rfl (by decide) (by decide) d_L_law_631 rfl rfl (Nat.le_of_ble_eq_true rfl) rfl (Nat.le_of_ble_eq_true rfl) ?_
  refine Ev.mono K ?_
  rintro _ s4 ⟨z5, rfl, K⟩
  show Ev (some (n, xs)) (d + 8) m_L_law 634 [some (vR 63 0), some (vR 0 0), some (vR 11 0), some (vI a3)] [vI z5] s4 post
  refine ev_aload_n d_L_law_634 rfl rfl ?_
  refine ev_aload_n d_L_law_635 rfl rfl ?_
  refine ev_iload_n d_L_law_636 rfl rfl ?_
  refine ev_iconst (v := 1) d_L_law_637 (by decide) ?_
  refine ev_iadd d_L_law_638 ?_
  obtain ⟨q6, K⟩ := K
  refine ev_sld q6 d_L_law_639 ?_
  refine ev_aload_n d_L_law_640 rfl rfl ?_
  refine ev_iload_n d_L_law_641 rfl rfl ?_
  refine ev_iconst (v := 2) d_L_law_642 (by decide) ?_
  refine ev_iadd d_L_law_643 ?_
  obtain ⟨q7, K⟩ := K
  refine ev_sld q7 d_L_law_644 ?_
  refine ev_aload_n d_L_law_645 rfl rfl ?_
  refine ev_iload_n d_L_law_646 rfl rfl ?_
  refine ev_iconst (v := 3) d_L_law_647 (by decide) ?_
  refine ev_iadd d_L_law_648 ?_
  obtain ⟨q8, K⟩ := K
  refine ev_sld q8 d_L_law_649 ?_
  refine ev_callV (as := [vI (xs ((a3 + (1 : Int32)).toNatClampNeg)), vI (xs ((a3 + (2 : Int32)).toNatClampNeg)), vI (xs ((a3 + (3 : Int32)).toNatClampNeg))]) (st := [vI z5]) (k := 11) (i := 0) g_M_best ml_L_73 rfl rfl (by decide) (by decide) d_L_law_650 rfl rfl (Nat.le_of_ble_eq_true rfl) rfl (Nat.le_of_ble_eq_true rfl) ?_
  refine Ev.mono K ?_
  rintro _ s9 ⟨z10, rfl, K⟩
  show Ev (some (n, xs)) (d + 8) m_L_law 653 [some (vR 63 0), some (vR 0 0), some (vR 11 0), some (vI a3)] [vI z10, vI z5] s9 post
  refine ev_icmp_eq (tgt := 1305) d_L_law_653 rfl (fun h11 => ?_) (fun h11 => ?_)
  · replace K := K.1 h11
    refine ev_iinc (v := a3 + (6 : Int32)) (L' := [some (vR 63 0), some (vR 0 0), some (vR 11 0), some (vI (a3 + (6 : Int32)))]) d_L_law_1305 rfl (congrArg (a3 + ·) (by decide)) (by decide) rfl ?_
    refine ev_goto (tgt := 18) d_L_law_1308 rfl ?_
    exact K
  · replace K := K.2 h11
    refine ev_iconst (v := 0) d_L_law_656 (by decide) ?_
    exact ev_ret (r := some (vI (0 : Int32))) d_L_law_657 rfl ⟨rfl, (by decide)⟩ K
set_option maxRecDepth 4000 in
theorem sg_L_law_658 {d n : Nat} {xs : Nat → Int32} {σ : ST} {a3 : Int32} {post : Option AV → ST → Prop} (K : (vp_in (a3 + (1 : Int32)) n) ∧ ((vp_in (a3 + (2 : Int32)) n) ∧ ((vp_in (a3 + (3 : Int32)) n) ∧ (Ev none (d + 7) m_O_how 0 [some (vR 0 0), some (vI (xs ((a3 + (1 : Int32)).toNatClampNeg))), some (vI (xs ((a3 + (2 : Int32)).toNatClampNeg))), some (vI (xs ((a3 + (3 : Int32)).toNatClampNeg)))] [] σ (fun r s4 => ∃ z5 : Int32, r = some (vI z5) ∧ ((vp_in (a3 + (1 : Int32)) n) ∧ ((vp_in (a3 + (2 : Int32)) n) ∧ ((vp_in (a3 + (3 : Int32)) n) ∧ (Ev none (d + 7) m_M_how 0 [some (vR 11 0), some (vI (xs ((a3 + (1 : Int32)).toNatClampNeg))), some (vI (xs ((a3 + (2 : Int32)).toNatClampNeg))), some (vI (xs ((a3 + (3 : Int32)).toNatClampNeg)))] [] s4 (fun r s9 => ∃ z10 : Int32, r = some (vI z10) ∧ (((z5 = z10) → (Ev (some (n, xs)) (d + 8) m_L_law 18 [some (vR 63 0), some (vR 0 0), some (vR 11 0), some (vI (a3 + (6 : Int32)))] [] s9 post)) ∧ (¬ (z5 = z10) → (post (some (vI (0 : Int32))) s9))))))))))))) : Ev (some (n, xs)) (d + 8) m_L_law 658 [some (vR 63 0), some (vR 0 0), some (vR 11 0), some (vI a3)] [] σ post := by
  refine ev_aload_n d_L_law_658 rfl rfl ?_
  refine ev_aload_n d_L_law_659 rfl rfl ?_
  refine ev_iload_n d_L_law_660 rfl rfl ?_
  refine ev_iconst (v := 1) d_L_law_661 (by decide) ?_
  refine ev_iadd d_L_law_662 ?_
  obtain ⟨q1, K⟩ := K
  refine ev_sld q1 d_L_law_663 ?_
  refine ev_aload_n d_L_law_664 rfl rfl ?_
  refine ev_iload_n d_L_law_665 rfl rfl ?_
  refine ev_iconst (v := 2) d_L_law_666 (by decide) ?_
  refine ev_iadd d_L_law_667 ?_
  obtain ⟨q2, K⟩ := K
  refine ev_sld q2 d_L_law_668 ?_
  refine ev_aload_n d_L_law_669 rfl rfl ?_
  refine ev_iload_n d_L_law_670 rfl rfl ?_
  refine ev_iconst (v := 3) d_L_law_671 (by decide) ?_
  refine ev_iadd d_L_law_672 ?_
  obtain ⟨q3, K⟩ := K
  refine ev_sld q3 d_L_law_673 ?_
  refine ev_callV (as := [vI (xs ((a3 + (1 : Int32)).toNatClampNeg)), vI (xs ((a3 + (2 : Int32)).toNatClampNeg)), vI (xs ((a3 + (3 : Int32)).toNatClampNeg))]) (st := []) (k := 0) (i := 0) g_O_how ml_L_74 rfl rfl (by decide) (by decide) d_L_law_674 rfl rfl (Nat.le_of_ble_eq_true rfl) rfl (Nat.le_of_ble_eq_true rfl) ?_
  refine Ev.mono K ?_
  rintro _ s4 ⟨z5, rfl, K⟩
  show Ev (some (n, xs)) (d + 8) m_L_law 677 [some (vR 63 0), some (vR 0 0), some (vR 11 0), some (vI a3)] [vI z5] s4 post
  refine ev_aload_n d_L_law_677 rfl rfl ?_
  refine ev_aload_n d_L_law_678 rfl rfl ?_
  refine ev_iload_n d_L_law_679 rfl rfl ?_
  refine ev_iconst (v := 1) d_L_law_680 (by decide) ?_
  refine ev_iadd d_L_law_681 ?_
  obtain ⟨q6, K⟩ := K
  refine ev_sld q6 d_L_law_682 ?_
  refine ev_aload_n d_L_law_683 rfl rfl ?_
  refine ev_iload_n d_L_law_684 rfl rfl ?_
  refine ev_iconst (v := 2) d_L_law_685 (by decide) ?_
  refine ev_iadd d_L_law_686 ?_
  obtain ⟨q7, K⟩ := K
  refine ev_sld q7 d_L_law_687 ?_
  refine ev_aload_n d_L_law_688 rfl rfl ?_
  refine ev_iload_n d_L_law_689 rfl rfl ?_
  refine ev_iconst (v := 3) d_L_law_690 (by decide) ?_
  refine ev_iadd d_L_law_691 ?_
  obtain ⟨q8, K⟩ := K
  refine ev_sld q8 d_L_law_692 ?_
  refine ev_callV (as := [vI (xs ((a3 + (1 : Int32)).toNatClampNeg)), vI (xs ((a3 + (2 : Int32)).toNatClampNeg)), vI (xs ((a3 + (3 : Int32)).toNatClampNeg))]) (st := [vI z5]) (k := 11) (i := 0) g_M_how ml_L_77 rfl rfl (by decide) (by decide) d_L_law_693 rfl rfl (Nat.le_of_ble_eq_true rfl) rfl (Nat.le_of_ble_eq_true rfl) ?_
  refine Ev.mono K ?_
  rintro _ s9 ⟨z10, rfl, K⟩
  show Ev (some (n, xs)) (d + 8) m_L_law 696 [some (vR 63 0), some (vR 0 0), some (vR 11 0), some (vI a3)] [vI z10, vI z5] s9 post
  refine ev_icmp_eq (tgt := 1305) d_L_law_696 rfl (fun h11 => ?_) (fun h11 => ?_)
  · replace K := K.1 h11
    refine ev_iinc (v := a3 + (6 : Int32)) (L' := [some (vR 63 0), some (vR 0 0), some (vR 11 0), some (vI (a3 + (6 : Int32)))]) d_L_law_1305 rfl (congrArg (a3 + ·) (by decide)) (by decide) rfl ?_
    refine ev_goto (tgt := 18) d_L_law_1308 rfl ?_
    exact K
  · replace K := K.2 h11
    refine ev_iconst (v := 0) d_L_law_699 (by decide) ?_
    exact ev_ret (r := some (vI (0 : Int32))) d_L_law_700 rfl ⟨rfl, (by decide)⟩ K
set_option maxRecDepth 4000 in
theorem sg_L_law_701 {d n : Nat} {xs : Nat → Int32} {σ : ST} {a3 : Int32} {post : Option AV → ST → Prop} (K : (vp_in (a3 + (1 : Int32)) n) ∧ ((vp_in (a3 + (2 : Int32)) n) ∧ ((vp_in (a3 + (3 : Int32)) n) ∧ ((vp_in (a3 + (4 : Int32)) n) ∧ (Ev none (d + 7) m_O_gain 0 [some (vR 0 0), some (vI (xs ((a3 + (1 : Int32)).toNatClampNeg))), some (vI (xs ((a3 + (2 : Int32)).toNatClampNeg))), some (vI (xs ((a3 + (3 : Int32)).toNatClampNeg))), some (vI (xs ((a3 + (4 : Int32)).toNatClampNeg)))] [] σ (fun r s5 => ∃ z6 : Int32, r = some (vI z6) ∧ ((vp_in (a3 + (1 : Int32)) n) ∧ ((vp_in (a3 + (2 : Int32)) n) ∧ ((vp_in (a3 + (3 : Int32)) n) ∧ ((vp_in (a3 + (4 : Int32)) n) ∧ (Ev none (d + 7) m_M_gain 0 [some (vR 11 0), some (vI (xs ((a3 + (1 : Int32)).toNatClampNeg))), some (vI (xs ((a3 + (2 : Int32)).toNatClampNeg))), some (vI (xs ((a3 + (3 : Int32)).toNatClampNeg))), some (vI (xs ((a3 + (4 : Int32)).toNatClampNeg)))] [] s5 (fun r s11 => ∃ z12 : Int32, r = some (vI z12) ∧ (((z6 = z12) → (Ev (some (n, xs)) (d + 8) m_L_law 18 [some (vR 63 0), some (vR 0 0), some (vR 11 0), some (vI (a3 + (6 : Int32)))] [] s11 post)) ∧ (¬ (z6 = z12) → (post (some (vI (0 : Int32))) s11))))))))))))))) : Ev (some (n, xs)) (d + 8) m_L_law 701 [some (vR 63 0), some (vR 0 0), some (vR 11 0), some (vI a3)] [] σ post := by
  refine ev_aload_n d_L_law_701 rfl rfl ?_
  refine ev_aload_n d_L_law_702 rfl rfl ?_
  refine ev_iload_n d_L_law_703 rfl rfl ?_
  refine ev_iconst (v := 1) d_L_law_704 (by decide) ?_
  refine ev_iadd d_L_law_705 ?_
  obtain ⟨q1, K⟩ := K
  refine ev_sld q1 d_L_law_706 ?_
  refine ev_aload_n d_L_law_707 rfl rfl ?_
  refine ev_iload_n d_L_law_708 rfl rfl ?_
  refine ev_iconst (v := 2) d_L_law_709 (by decide) ?_
  refine ev_iadd d_L_law_710 ?_
  obtain ⟨q2, K⟩ := K
  refine ev_sld q2 d_L_law_711 ?_
  refine ev_aload_n d_L_law_712 rfl rfl ?_
  refine ev_iload_n d_L_law_713 rfl rfl ?_
  refine ev_iconst (v := 3) d_L_law_714 (by decide) ?_
  refine ev_iadd d_L_law_715 ?_
  obtain ⟨q3, K⟩ := K
  refine ev_sld q3 d_L_law_716 ?_
  refine ev_aload_n d_L_law_717 rfl rfl ?_
  refine ev_iload_n d_L_law_718 rfl rfl ?_
  refine ev_iconst (v := 4) d_L_law_719 (by decide) ?_
  refine ev_iadd d_L_law_720 ?_
  obtain ⟨q4, K⟩ := K
  refine ev_sld q4 d_L_law_721 ?_
  refine ev_callV (as := [vI (xs ((a3 + (1 : Int32)).toNatClampNeg)), vI (xs ((a3 + (2 : Int32)).toNatClampNeg)), vI (xs ((a3 + (3 : Int32)).toNatClampNeg)), vI (xs ((a3 + (4 : Int32)).toNatClampNeg))]) (st := []) (k := 0) (i := 0) g_O_gain ml_L_78 rfl rfl (by decide) (by decide) d_L_law_722 rfl rfl (Nat.le_of_ble_eq_true rfl) rfl (Nat.le_of_ble_eq_true rfl) ?_
  refine Ev.mono K ?_
  rintro _ s5 ⟨z6, rfl, K⟩
  show Ev (some (n, xs)) (d + 8) m_L_law 725 [some (vR 63 0), some (vR 0 0), some (vR 11 0), some (vI a3)] [vI z6] s5 post
  refine ev_aload_n d_L_law_725 rfl rfl ?_
  refine ev_aload_n d_L_law_726 rfl rfl ?_
  refine ev_iload_n d_L_law_727 rfl rfl ?_
  refine ev_iconst (v := 1) d_L_law_728 (by decide) ?_
  refine ev_iadd d_L_law_729 ?_
  obtain ⟨q7, K⟩ := K
  refine ev_sld q7 d_L_law_730 ?_
  refine ev_aload_n d_L_law_731 rfl rfl ?_
  refine ev_iload_n d_L_law_732 rfl rfl ?_
  refine ev_iconst (v := 2) d_L_law_733 (by decide) ?_
  refine ev_iadd d_L_law_734 ?_
  obtain ⟨q8, K⟩ := K
  refine ev_sld q8 d_L_law_735 ?_
  refine ev_aload_n d_L_law_736 rfl rfl ?_
  refine ev_iload_n d_L_law_737 rfl rfl ?_
  refine ev_iconst (v := 3) d_L_law_738 (by decide) ?_
  refine ev_iadd d_L_law_739 ?_
  obtain ⟨q9, K⟩ := K
  refine ev_sld q9 d_L_law_740 ?_
  refine ev_aload_n d_L_law_741 rfl rfl ?_
  refine ev_iload_n d_L_law_742 rfl rfl ?_
  refine ev_iconst (v := 4) d_L_law_743 (by decide) ?_
  refine ev_iadd d_L_law_744 ?_
  obtain ⟨q10, K⟩ := K
  refine ev_sld q10 d_L_law_745 ?_
  refine ev_callV (as := [vI (xs ((a3 + (1 : Int32)).toNatClampNeg)), vI (xs ((a3 + (2 : Int32)).toNatClampNeg)), vI (xs ((a3 + (3 : Int32)).toNatClampNeg)), vI (xs ((a3 + (4 : Int32)).toNatClampNeg))]) (st := [vI z6]) (k := 11) (i := 0) g_M_gain ml_L_81 rfl rfl (by decide) (by decide) d_L_law_746 rfl rfl (Nat.le_of_ble_eq_true rfl) rfl (Nat.le_of_ble_eq_true rfl) ?_
  refine Ev.mono K ?_
  rintro _ s11 ⟨z12, rfl, K⟩
  show Ev (some (n, xs)) (d + 8) m_L_law 749 [some (vR 63 0), some (vR 0 0), some (vR 11 0), some (vI a3)] [vI z12, vI z6] s11 post
  refine ev_icmp_eq (tgt := 1305) d_L_law_749 rfl (fun h13 => ?_) (fun h13 => ?_)
  · replace K := K.1 h13
    refine ev_iinc (v := a3 + (6 : Int32)) (L' := [some (vR 63 0), some (vR 0 0), some (vR 11 0), some (vI (a3 + (6 : Int32)))]) d_L_law_1305 rfl (congrArg (a3 + ·) (by decide)) (by decide) rfl ?_
    refine ev_goto (tgt := 18) d_L_law_1308 rfl ?_
    exact K
  · replace K := K.2 h13
    refine ev_iconst (v := 0) d_L_law_752 (by decide) ?_
    exact ev_ret (r := some (vI (0 : Int32))) d_L_law_753 rfl ⟨rfl, (by decide)⟩ K
set_option maxRecDepth 4000 in
theorem sg_L_law_754 {d n : Nat} {xs : Nat → Int32} {σ : ST} {a3 : Int32} {post : Option AV → ST → Prop} (K : (vp_in (a3 + (1 : Int32)) n) ∧ ((vp_in (a3 + (2 : Int32)) n) ∧ ((vp_in (a3 + (3 : Int32)) n) ∧ (Ev none (d + 7) m_O_rests 0 [some (vR 0 0), some (vI (xs ((a3 + (1 : Int32)).toNatClampNeg))), some (vI (xs ((a3 + (2 : Int32)).toNatClampNeg))), some (vI (xs ((a3 + (3 : Int32)).toNatClampNeg)))] [] σ (fun r s4 => ∃ z5 : Int32, r = some (vI z5) ∧ ((vp_in (a3 + (1 : Int32)) n) ∧ ((vp_in (a3 + (2 : Int32)) n) ∧ ((vp_in (a3 + (3 : Int32)) n) ∧ (Ev none (d + 7) m_M_rests 0 [some (vR 11 0), some (vI (xs ((a3 + (1 : Int32)).toNatClampNeg))), some (vI (xs ((a3 + (2 : Int32)).toNatClampNeg))), some (vI (xs ((a3 + (3 : Int32)).toNatClampNeg)))] [] s4 (fun r s9 => ∃ z10 : Int32, r = some (vI z10) ∧ (((z5 = z10) → (Ev (some (n, xs)) (d + 8) m_L_law 18 [some (vR 63 0), some (vR 0 0), some (vR 11 0), some (vI (a3 + (6 : Int32)))] [] s9 post)) ∧ (¬ (z5 = z10) → (post (some (vI (0 : Int32))) s9))))))))))))) : Ev (some (n, xs)) (d + 8) m_L_law 754 [some (vR 63 0), some (vR 0 0), some (vR 11 0), some (vI a3)] [] σ post := by
  refine ev_aload_n d_L_law_754 rfl rfl ?_
  refine ev_aload_n d_L_law_755 rfl rfl ?_
  refine ev_iload_n d_L_law_756 rfl rfl ?_
  refine ev_iconst (v := 1) d_L_law_757 (by decide) ?_
  refine ev_iadd d_L_law_758 ?_
  obtain ⟨q1, K⟩ := K
  refine ev_sld q1 d_L_law_759 ?_
  refine ev_aload_n d_L_law_760 rfl rfl ?_
  refine ev_iload_n d_L_law_761 rfl rfl ?_
  refine ev_iconst (v := 2) d_L_law_762 (by decide) ?_
  refine ev_iadd d_L_law_763 ?_
  obtain ⟨q2, K⟩ := K
  refine ev_sld q2 d_L_law_764 ?_
  refine ev_aload_n d_L_law_765 rfl rfl ?_
  refine ev_iload_n d_L_law_766 rfl rfl ?_
  refine ev_iconst (v := 3) d_L_law_767 (by decide) ?_
  refine ev_iadd d_L_law_768 ?_
  obtain ⟨q3, K⟩ := K
  refine ev_sld q3 d_L_law_769 ?_
  refine ev_callV (as := [vI (xs ((a3 + (1 : Int32)).toNatClampNeg)), vI (xs ((a3 + (2 : Int32)).toNatClampNeg)), vI (xs ((a3 + (3 : Int32)).toNatClampNeg))]) (st := []) (k := 0) (i := 0) g_O_rests ml_L_82 rfl rfl (by decide) (by decide) d_L_law_770 rfl rfl (Nat.le_of_ble_eq_true rfl) rfl (Nat.le_of_ble_eq_true rfl) ?_
  refine Ev.mono K ?_
  rintro _ s4 ⟨z5, rfl, K⟩
  show Ev (some (n, xs)) (d + 8) m_L_law 773 [some (vR 63 0), some (vR 0 0), some (vR 11 0), some (vI a3)] [vI z5] s4 post
  refine ev_aload_n d_L_law_773 rfl rfl ?_
  refine ev_aload_n d_L_law_774 rfl rfl ?_
  refine ev_iload_n d_L_law_775 rfl rfl ?_
  refine ev_iconst (v := 1) d_L_law_776 (by decide) ?_
  refine ev_iadd d_L_law_777 ?_
  obtain ⟨q6, K⟩ := K
  refine ev_sld q6 d_L_law_778 ?_
  refine ev_aload_n d_L_law_779 rfl rfl ?_
  refine ev_iload_n d_L_law_780 rfl rfl ?_
  refine ev_iconst (v := 2) d_L_law_781 (by decide) ?_
  refine ev_iadd d_L_law_782 ?_
  obtain ⟨q7, K⟩ := K
  refine ev_sld q7 d_L_law_783 ?_
  refine ev_aload_n d_L_law_784 rfl rfl ?_
  refine ev_iload_n d_L_law_785 rfl rfl ?_
  refine ev_iconst (v := 3) d_L_law_786 (by decide) ?_
  refine ev_iadd d_L_law_787 ?_
  obtain ⟨q8, K⟩ := K
  refine ev_sld q8 d_L_law_788 ?_
  refine ev_callV (as := [vI (xs ((a3 + (1 : Int32)).toNatClampNeg)), vI (xs ((a3 + (2 : Int32)).toNatClampNeg)), vI (xs ((a3 + (3 : Int32)).toNatClampNeg))]) (st := [vI z5]) (k := 11) (i := 0) g_M_rests ml_L_85 rfl rfl (by decide) (by decide) d_L_law_789 rfl rfl (Nat.le_of_ble_eq_true rfl) rfl (Nat.le_of_ble_eq_true rfl) ?_
  refine Ev.mono K ?_
  rintro _ s9 ⟨z10, rfl, K⟩
  show Ev (some (n, xs)) (d + 8) m_L_law 792 [some (vR 63 0), some (vR 0 0), some (vR 11 0), some (vI a3)] [vI z10, vI z5] s9 post
  refine ev_icmp_eq (tgt := 1305) d_L_law_792 rfl (fun h11 => ?_) (fun h11 => ?_)
  · replace K := K.1 h11
    refine ev_iinc (v := a3 + (6 : Int32)) (L' := [some (vR 63 0), some (vR 0 0), some (vR 11 0), some (vI (a3 + (6 : Int32)))]) d_L_law_1305 rfl (congrArg (a3 + ·) (by decide)) (by decide) rfl ?_
    refine ev_goto (tgt := 18) d_L_law_1308 rfl ?_
    exact K
  · replace K := K.2 h11
    refine ev_iconst (v := 0) d_L_law_795 (by decide) ?_
    exact ev_ret (r := some (vI (0 : Int32))) d_L_law_796 rfl ⟨rfl, (by decide)⟩ K
set_option maxRecDepth 4000 in
theorem sg_L_law_797 {d n : Nat} {xs : Nat → Int32} {σ : ST} {a3 : Int32} {post : Option AV → ST → Prop} (K : (vp_in (a3 + (1 : Int32)) n) ∧ ((vp_in (a3 + (2 : Int32)) n) ∧ (Ev none (d + 7) m_O_pairs 0 [some (vR 0 0), some (vI (xs ((a3 + (1 : Int32)).toNatClampNeg))), some (vI (xs ((a3 + (2 : Int32)).toNatClampNeg)))] [] σ (fun r s3 => ∃ z4 : Int32, r = some (vI z4) ∧ ((vp_in (a3 + (1 : Int32)) n) ∧ ((vp_in (a3 + (2 : Int32)) n) ∧ (Ev none (d + 7) m_M_pairs 0 [some (vR 11 0), some (vI (xs ((a3 + (1 : Int32)).toNatClampNeg))), some (vI (xs ((a3 + (2 : Int32)).toNatClampNeg)))] [] s3 (fun r s7 => ∃ z8 : Int32, r = some (vI z8) ∧ (((z4 = z8) → (Ev (some (n, xs)) (d + 8) m_L_law 18 [some (vR 63 0), some (vR 0 0), some (vR 11 0), some (vI (a3 + (6 : Int32)))] [] s7 post)) ∧ (¬ (z4 = z8) → (post (some (vI (0 : Int32))) s7))))))))))) : Ev (some (n, xs)) (d + 8) m_L_law 797 [some (vR 63 0), some (vR 0 0), some (vR 11 0), some (vI a3)] [] σ post := by
  refine ev_aload_n d_L_law_797 rfl rfl ?_
  refine ev_aload_n d_L_law_798 rfl rfl ?_
  refine ev_iload_n d_L_law_799 rfl rfl ?_
  refine ev_iconst (v := 1) d_L_law_800 (by decide) ?_
  refine ev_iadd d_L_law_801 ?_
  obtain ⟨q1, K⟩ := K
  refine ev_sld q1 d_L_law_802 ?_
  refine ev_aload_n d_L_law_803 rfl rfl ?_
  refine ev_iload_n d_L_law_804 rfl rfl ?_
  refine ev_iconst (v := 2) d_L_law_805 (by decide) ?_
  refine ev_iadd d_L_law_806 ?_
  obtain ⟨q2, K⟩ := K
  refine ev_sld q2 d_L_law_807 ?_
  refine ev_callV (as := [vI (xs ((a3 + (1 : Int32)).toNatClampNeg)), vI (xs ((a3 + (2 : Int32)).toNatClampNeg))]) (st := []) (k := 0) (i := 0) g_O_pairs ml_L_86 rfl rfl (by decide) (by decide) d_L_law_808 rfl rfl (Nat.le_of_ble_eq_true rfl) rfl (Nat.le_of_ble_eq_true rfl) ?_
  refine Ev.mono K ?_
  rintro _ s3 ⟨z4, rfl, K⟩
  show Ev (some (n, xs)) (d + 8) m_L_law 811 [some (vR 63 0), some (vR 0 0), some (vR 11 0), some (vI a3)] [vI z4] s3 post
  refine ev_aload_n d_L_law_811 rfl rfl ?_
  refine ev_aload_n d_L_law_812 rfl rfl ?_
  refine ev_iload_n d_L_law_813 rfl rfl ?_
  refine ev_iconst (v := 1) d_L_law_814 (by decide) ?_
  refine ev_iadd d_L_law_815 ?_
  obtain ⟨q5, K⟩ := K
  refine ev_sld q5 d_L_law_816 ?_
  refine ev_aload_n d_L_law_817 rfl rfl ?_
  refine ev_iload_n d_L_law_818 rfl rfl ?_
  refine ev_iconst (v := 2) d_L_law_819 (by decide) ?_
  refine ev_iadd d_L_law_820 ?_
  obtain ⟨q6, K⟩ := K
  refine ev_sld q6 d_L_law_821 ?_
  refine ev_callV (as := [vI (xs ((a3 + (1 : Int32)).toNatClampNeg)), vI (xs ((a3 + (2 : Int32)).toNatClampNeg))]) (st := [vI z4]) (k := 11) (i := 0) g_M_pairs ml_L_89 rfl rfl (by decide) (by decide) d_L_law_822 rfl rfl (Nat.le_of_ble_eq_true rfl) rfl (Nat.le_of_ble_eq_true rfl) ?_
  refine Ev.mono K ?_
  rintro _ s7 ⟨z8, rfl, K⟩
  show Ev (some (n, xs)) (d + 8) m_L_law 825 [some (vR 63 0), some (vR 0 0), some (vR 11 0), some (vI a3)] [vI z8, vI z4] s7 post
  refine ev_icmp_eq (tgt := 1305) d_L_law_825 rfl (fun h9 => ?_) (fun h9 => ?_)
  · replace K := K.1 h9
    refine ev_iinc (v := a3 + (6 : Int32)) (L' := [some (vR 63 0), some (vR 0 0), some (vR 11 0), some (vI (a3 + (6 : Int32)))]) d_L_law_1305 rfl (congrArg (a3 + ·) (by decide)) (by decide) rfl ?_
    refine ev_goto (tgt := 18) d_L_law_1308 rfl ?_
    exact K
  · replace K := K.2 h9
    refine ev_iconst (v := 0) d_L_law_828 (by decide) ?_
    exact ev_ret (r := some (vI (0 : Int32))) d_L_law_829 rfl ⟨rfl, (by decide)⟩ K
set_option maxRecDepth 4000 in
theorem sg_L_law_830 {d n : Nat} {xs : Nat → Int32} {σ : ST} {a3 : Int32} {post : Option AV → ST → Prop} (K : (vp_in (a3 + (1 : Int32)) n) ∧ ((vp_in (a3 + (2 : Int32)) n) ∧ ((vp_in (a3 + (3 : Int32)) n) ∧ (Ev none (d + 7) m_O_turn 0 [some (vR 0 0), some (vI (xs ((a3 + (1 : Int32)).toNatClampNeg))), some (vI (xs ((a3 + (2 : Int32)).toNatClampNeg))), some (vI (xs ((a3 + (3 : Int32)).toNatClampNeg)))] [] σ (fun r s4 => ∃ z5 : Int32, r = some (vI z5) ∧ ((vp_in (a3 + (1 : Int32)) n) ∧ ((vp_in (a3 + (2 : Int32)) n) ∧ ((vp_in (a3 + (3 : Int32)) n) ∧ (Ev none (d + 7) m_M_turn 0 [some (vR 11 0), some (vI (xs ((a3 + (1 : Int32)).toNatClampNeg))), some (vI (xs ((a3 + (2 : Int32)).toNatClampNeg))), some (vI (xs ((a3 + (3 : Int32)).toNatClampNeg)))] [] s4 (fun r s9 => ∃ z10 : Int32, r = some (vI z10) ∧ (((z5 = z10) → (Ev (some (n, xs)) (d + 8) m_L_law 18 [some (vR 63 0), some (vR 0 0), some (vR 11 0), some (vI (a3 + (6 : Int32)))] [] s9 post)) ∧ (¬ (z5 = z10) → (post (some (vI (0 : Int32))) s9))))))))))))) : Ev (some (n, xs)) (d + 8) m_L_law 830 [some (vR 63 0), some (vR 0 0), some (vR 11 0), some (vI a3)] [] σ post := by
  refine ev_aload_n d_L_law_830 rfl rfl ?_
  refine ev_aload_n d_L_law_831 rfl rfl ?_
  refine ev_iload_n d_L_law_832 rfl rfl ?_
  refine ev_iconst (v := 1) d_L_law_833 (by decide) ?_
  refine ev_iadd d_L_law_834 ?_
  obtain ⟨q1, K⟩ := K
  refine ev_sld q1 d_L_law_835 ?_
  refine ev_aload_n d_L_law_836 rfl rfl ?_
  refine ev_iload_n d_L_law_837 rfl rfl ?_
  refine ev_iconst (v := 2) d_L_law_838 (by decide) ?_
  refine ev_iadd d_L_law_839 ?_
  obtain ⟨q2, K⟩ := K
  refine ev_sld q2 d_L_law_840 ?_
  refine ev_aload_n d_L_law_841 rfl rfl ?_
  refine ev_iload_n d_L_law_842 rfl rfl ?_
  refine ev_iconst (v := 3) d_L_law_843 (by decide) ?_
  refine ev_iadd d_L_law_844 ?_
  obtain ⟨q3, K⟩ := K
  refine ev_sld q3 d_L_law_845 ?_
  refine ev_callV (as := [vI (xs ((a3 + (1 : Int32)).toNatClampNeg)), vI (xs ((a3 + (2 : Int32)).toNatClampNeg)), vI (xs ((a3 + (3 : Int32)).toNatClampNeg))]) (st := []) (k := 0) (i := 0) g_O_turn ml_L_90 rfl rfl (by decide) (by decide) d_L_law_846 rfl rfl (Nat.le_of_ble_eq_true rfl) rfl (Nat.le_of_ble_eq_true rfl) ?_
  refine Ev.mono K ?_
  rintro _ s4 ⟨z5, rfl, K⟩
  show Ev (some (n, xs)) (d + 8) m_L_law 849 [some (vR 63 0), some (vR 0 0), some (vR 11 0), some (vI a3)] [vI z5] s4 post
  refine ev_aload_n d_L_law_849 rfl rfl ?_
  refine ev_aload_n d_L_law_850 rfl rfl ?_
  refine ev_iload_n d_L_law_851 rfl rfl ?_
  refine ev_iconst (v := 1) d_L_law_852 (by decide) ?_
  refine ev_iadd d_L_law_853 ?_
  obtain ⟨q6, K⟩ := K
  refine ev_sld q6 d_L_law_854 ?_
  refine ev_aload_n d_L_law_855 rfl rfl ?_
  refine ev_iload_n d_L_law_856 rfl rfl ?_
  refine ev_iconst (v := 2) d_L_law_857 (by decide) ?_
  refine ev_iadd d_L_law_858 ?_
  obtain ⟨q7, K⟩ := K
  refine ev_sld q7 d_L_law_859 ?_
  refine ev_aload_n d_L_law_860 rfl rfl ?_
  refine ev_iload_n d_L_law_861 rfl rfl ?_
  refine ev_iconst (v := 3) d_L_law_862 (by decide) ?_
  refine ev_iadd d_L_law_863 ?_
  obtain ⟨q8, K⟩ := K
  refine ev_sld q8 d_L_law_864 ?_
  refine ev_callV (as := [vI (xs ((a3 + (1 : Int32)).toNatClampNeg)), vI (xs ((a3 + (2 : Int32)).toNatClampNeg)), vI (xs ((a3 + (3 : Int32)).toNatClampNeg))]) (st := [vI z5]) (k := 11) (i := 0) g_M_turn ml_L_93 rfl rfl (by decide) (by decide) d_L_law_865 rfl rfl (Nat.le_of_ble_eq_true rfl) rfl (Nat.le_of_ble_eq_true rfl) ?_
  refine Ev.mono K ?_
  rintro _ s9 ⟨z10, rfl, K⟩
  show Ev (some (n, xs)) (d + 8) m_L_law 868 [some (vR 63 0), some (vR 0 0), some (vR 11 0), some (vI a3)] [vI z10, vI z5] s9 post
  refine ev_icmp_eq (tgt := 1305) d_L_law_868 rfl (fun h11 => ?_) (fun h11 => ?_)
  · replace K := K.1 h11
    refine ev_iinc (v := a3 + (6 : Int32)) (L' := [some (vR 63 0), some (vR 0 0), some (vR 11 0), some (vI (a3 + (6 : Int32)))]) d_L_law_1305 rfl (congrArg (a3 + ·) (by decide)) (by decide) rfl ?_
    refine ev_goto (tgt := 18) d_L_law_1308 rfl ?_
    exact K
  · replace K := K.2 h11
    refine ev_iconst (v := 0) d_L_law_871 (by decide) ?_
    exact ev_ret (r := some (vI (0 : Int32))) d_L_law_872 rfl ⟨rfl, (by decide)⟩ K
set_option maxRecDepth 4000 in
theorem sg_L_law_873 {d n : Nat} {xs : Nat → Int32} {σ : ST} {a3 : Int32} {post : Option AV → ST → Prop} (K : Ev none (d + 7) m_O_forget 0 [some (vR 0 0), none] [] σ (fun r s1 => ∃ z2 : Int32, r = some (vI z2) ∧ (Ev none (d + 7) m_M_forget 0 [some (vR 11 0), none] [] s1 (fun r s3 => ∃ z4 : Int32, r = some (vI z4) ∧ (((z2 = z4) → (Ev (some (n, xs)) (d + 8) m_L_law 18 [some (vR 63 0), some (vR 0 0), some (vR 11 0), some (vI (a3 + (6 : Int32)))] [] s3 post)) ∧ (¬ (z2 = z4) → (post (some (vI (0 : Int32))) s3))))))) : Ev (some (n, xs)) (d + 8) m_L_law 873 [some (vR 63 0), some (vR 0 0), some (vR 11 0), some (vI a3)] [] σ post := by
  refine ev_aload_n d_L_law_873 rfl rfl ?_
  refine ev_callV (as := []) (st := []) (k := 0) (i := 0) g_O_forget ml_L_94 rfl rfl (by decide) (by decide) d_L_law_874 rfl rfl (Nat.le_of_ble_eq_true rfl) rfl (Nat.le_of_ble_eq_true rfl) ?_
  refine Ev.mono K ?_
  rintro _ s1 ⟨z2, rfl, K⟩
  show Ev (some (n, xs)) (d + 8) m_L_law 877 [some (vR 63 0), some (vR 0 0), some (vR 11 0), some (vI a3)] [vI z2] s1 post
  refine ev_aload_n d_L_law_877 rfl rfl ?_
  refine ev_callV (as := []) (st := [vI z2]) (k := 11) (i := 0) g_M_forget ml_L_97 rfl rfl (by decide) (by decide) d_L_law_878 rfl rfl (Nat.le_of_ble_eq_true rfl) rfl (Nat.le_of_ble_eq_true rfl) ?_
  refine Ev.mono K ?_
  rintro _ s3 ⟨z4, rfl, K⟩
  show Ev (some (n, xs)) (d + 8) m_L_law 881 [some (vR 63 0), some (vR 0 0), some (vR 11 0), some (vI a3)] [vI z4, vI z2] s3 post
  refine ev_icmp_eq (tgt := 1305) d_L_law_881 rfl (fun h5 => ?_) (fun h5 => ?_)
  · replace K := K.1 h5
    refine ev_iinc (v := a3 + (6 : Int32)) (L' := [some (vR 63 0), some (vR 0 0), some (vR 11 0), some (vI (a3 + (6 : Int32)))]) d_L_law_1305 rfl (congrArg (a3 + ·) (by decide)) (by decide) rfl ?_
    refine ev_goto (tgt := 18) d_L_law_1308 rfl ?_
    exact K
  · replace K := K.2 h5
    refine ev_iconst (v := 0) d_L_law_884 (by decide) ?_
    exact ev_ret (r := some (vI (0 : Int32))) d_L_law_885 rfl ⟨rfl, (by decide)⟩ K
set_option maxRecDepth 4000 in
theorem sg_L_law_886 {d n : Nat} {xs : Nat → Int32} {σ : ST} {a3 : Int32} {post : Option AV → ST → Prop} (K : (vp_in (a3 + (1 : Int32)) n) ∧ ((vp_in (a3 + (2 : Int32)) n) ∧ (Ev none (d + 7) m_O_paces 0 [some (vR 0 0), some (vI (xs ((a3 + (1 : Int32)).toNatClampNeg))), some (vI (xs ((a3 + (2 : Int32)).toNatClampNeg)))] [] σ (fun r s3 => ∃ z4 : Int32, r = some (vI z4) ∧ ((vp_in (a3 + (1 : Int32)) n) ∧ ((vp_in (a3 + (2 : Int32)) n) ∧ (Ev none (d + 7) m_M_paces 0 [some (vR 11 0), some (vI (xs ((a3 + (1 : Int32)).toNatClampNeg))), some (vI (xs ((a3 + (2 : Int32)).toNatClampNeg)))] [] s3 (fun r s7 => ∃ z8 : Int32, r = some (vI z8) ∧ (((z4 = z8) → (Ev (some (n, xs)) (d + 8) m_L_law 18 [some (vR 63 0), some (vR 0 0), some (vR 11 0), some (vI (a3 + (6 : Int32)))] [] s7 post)) ∧ (¬ (z4 = z8) → (post (some (vI (0 : Int32))) s7))))))))))) : Ev (some (n, xs)) (d + 8) m_L_law 886 [some (vR 63 0), some (vR 0 0), some (vR 11 0), some (vI a3)] [] σ post := by
  refine ev_aload_n d_L_law_886 rfl rfl ?_
  refine ev_aload_n d_L_law_887 rfl rfl ?_
  refine ev_iload_n d_L_law_888 rfl rfl ?_
  refine ev_iconst (v := 1) d_L_law_889 (by decide) ?_
  refine ev_iadd d_L_law_890 ?_
  obtain ⟨q1, K⟩ := K
  refine ev_sld q1 d_L_law_891 ?_
  refine ev_aload_n d_L_law_892 rfl rfl ?_
  refine ev_iload_n d_L_law_893 rfl rfl ?_
  refine ev_iconst (v := 2) d_L_law_894 (by decide) ?_
  refine ev_iadd d_L_law_895 ?_
  obtain ⟨q2, K⟩ := K
  refine ev_sld q2 d_L_law_896 ?_
  refine ev_callV (as := [vI (xs ((a3 + (1 : Int32)).toNatClampNeg)), vI (xs ((a3 + (2 : Int32)).toNatClampNeg))]) (st := []) (k := 0) (i := 0) g_O_paces ml_L_98 rfl rfl (by decide) (by decide) d_L_law_897 rfl rfl (Nat.le_of_ble_eq_true rfl) rfl (Nat.le_of_ble_eq_true rfl) ?_
  refine Ev.mono K ?_
  rintro _ s3 ⟨z4, rfl, K⟩
  show Ev (some (n, xs)) (d + 8) m_L_law 900 [some (vR 63 0), some (vR 0 0), some (vR 11 0), some (vI a3)] [vI z4] s3 post
  refine ev_aload_n d_L_law_900 rfl rfl ?_
  refine ev_aload_n d_L_law_901 rfl rfl ?_
  refine ev_iload_n d_L_law_902 rfl rfl ?_
  refine ev_iconst (v := 1) d_L_law_903 (by decide) ?_
  refine ev_iadd d_L_law_904 ?_
  obtain ⟨q5, K⟩ := K
  refine ev_sld q5 d_L_law_905 ?_
  refine ev_aload_n d_L_law_906 rfl rfl ?_
  refine ev_iload_n d_L_law_907 rfl rfl ?_
  refine ev_iconst (v := 2) d_L_law_908 (by decide) ?_
  refine ev_iadd d_L_law_909 ?_
  obtain ⟨q6, K⟩ := K
  refine ev_sld q6 d_L_law_910 ?_
  refine ev_callV (as := [vI (xs ((a3 + (1 : Int32)).toNatClampNeg)), vI (xs ((a3 + (2 : Int32)).toNatClampNeg))]) (st := [vI z4]) (k := 11) (i := 0) g_M_paces ml_L_101 rfl rfl (by decide) (by decide) d_L_law_911 rfl rfl (Nat.le_of_ble_eq_true rfl) rfl (Nat.le_of_ble_eq_true rfl) ?_
  refine Ev.mono K ?_
  rintro _ s7 ⟨z8, rfl, K⟩
  show Ev (some (n, xs)) (d + 8) m_L_law 914 [some (vR 63 0), some (vR 0 0), some (vR 11 0), some (vI a3)] [vI z8, vI z4] s7 post
  refine ev_icmp_eq (tgt := 1305) d_L_law_914 rfl (fun h9 => ?_) (fun h9 => ?_)
  · replace K := K.1 h9
    refine ev_iinc (v := a3 + (6 : Int32)) (L' := [some (vR 63 0), some (vR 0 0), some (vR 11 0), some (vI (a3 + (6 : Int32)))]) d_L_law_1305 rfl (congrArg (a3 + ·) (by decide)) (by decide) rfl ?_
    refine ev_goto (tgt := 18) d_L_law_1308 rfl ?_
    exact K
  · replace K := K.2 h9
    refine ev_iconst (v := 0) d_L_law_917 (by decide) ?_
    exact ev_ret (r := some (vI (0 : Int32))) d_L_law_918 rfl ⟨rfl, (by decide)⟩ K
set_option maxRecDepth 4000 in
theorem sg_L_law_919 {d n : Nat} {xs : Nat → Int32} {σ : ST} {a3 : Int32} {post : Option AV → ST → Prop} (K : Ev none (d + 7) m_O_unlike 0 [some (vR 0 0)] [] σ (fun r s1 => ∃ z2 : Int32, r = some (vI z2) ∧ (Ev none (d + 7) m_M_unlike 0 [some (vR 11 0)] [] s1 (fun r s3 => ∃ z4 : Int32, r = some (vI z4) ∧ (((z2 = z4) → (Ev (some (n, xs)) (d + 8) m_L_law 18 [some (vR 63 0), some (vR 0 0), some (vR 11 0), some (vI (a3 + (6 : Int32)))] [] s3 post)) ∧ (¬ (z2 = z4) → (post (some (vI (0 : Int32))) s3))))))) : Ev (some (n, xs)) (d + 8) m_L_law 919 [some (vR 63 0), some (vR 0 0), some (vR 11 0), some (vI a3)] [] σ post := by
  refine ev_aload_n d_L_law_919 rfl rfl ?_
  refine ev_callV (as := []) (st := []) (k := 0) (i := 0) g_O_unlike ml_L_102 rfl rfl (by decide) (by decide) d_L_law_920 rfl rfl (Nat.le_of_ble_eq_true rfl) rfl (Nat.le_of_ble_eq_true rfl) ?_
  refine Ev.mono K ?_
  rintro _ s1 ⟨z2, rfl, K⟩
  show Ev (some (n, xs)) (d + 8) m_L_law 923 [some (vR 63 0), some (vR 0 0), some (vR 11 0), some (vI a3)] [vI z2] s1 post
  refine ev_aload_n d_L_law_923 rfl rfl ?_
  refine ev_callV (as := []) (st := [vI z2]) (k := 11) (i := 0) g_M_unlike ml_L_105 rfl rfl (by decide) (by decide) d_L_law_924 rfl rfl (Nat.le_of_ble_eq_true rfl) rfl (Nat.le_of_ble_eq_true rfl) ?_
  refine Ev.mono K ?_
  rintro _ s3 ⟨z4, rfl, K⟩
  show Ev (some (n, xs)) (d + 8) m_L_law 927 [some (vR 63 0), some (vR 0 0), some (vR 11 0), some (vI a3)] [vI z4, vI z2] s3 post
  refine ev_icmp_eq (tgt := 1305) d_L_law_927 rfl (fun h5 => ?_) (fun h5 => ?_)
  · replace K := K.1 h5
    refine ev_iinc (v := a3 + (6 : Int32)) (L' := [some (vR 63 0), some (vR 0 0), some (vR 11 0), some (vI (a3 + (6 : Int32)))]) d_L_law_1305 rfl (congrArg (a3 + ·) (by decide)) (by decide) rfl ?_
    refine ev_goto (tgt := 18) d_L_law_1308 rfl ?_
    exact K
  · replace K := K.2 h5
    refine ev_iconst (v := 0) d_L_law_930 (by decide) ?_
    exact ev_ret (r := some (vI (0 : Int32))) d_L_law_931 rfl ⟨rfl, (by decide)⟩ K
set_option maxRecDepth 4000 in
theorem sg_L_law_932 {d n : Nat} {xs : Nat → Int32} {σ : ST} {a3 : Int32} {post : Option AV → ST → Prop} (K : (vp_in (a3 + (1 : Int32)) n) ∧ ((vp_in (a3 + (2 : Int32)) n) ∧ ((vp_in (a3 + (3 : Int32)) n) ∧ (Ev none (d + 7) m_O_done 0 [some (vR 0 0), some (vI (xs ((a3 + (1 : Int32)).toNatClampNeg))), some (vI (xs ((a3 + (2 : Int32)).toNatClampNeg))), some (vI (xs ((a3 + (3 : Int32)).toNatClampNeg)))] [] σ (fun r s4 => ∃ z5 : Int64, r = some (vJ z5) ∧ ((vp_in (a3 + (1 : Int32)) n) ∧ ((vp_in (a3 + (2 : Int32)) n) ∧ ((vp_in (a3 + (3 : Int32)) n) ∧ (Ev none (d + 7) m_M_done 0 [some (vR 11 0), some (vI (xs ((a3 + (1 : Int32)).toNatClampNeg))), some (vI (xs ((a3 + (2 : Int32)).toNatClampNeg))), some (vI (xs ((a3 + (3 : Int32)).toNatClampNeg)))] [] s4 (fun r s9 => ∃ z10 : Int64, r = some (vJ z10) ∧ (((z5 = z10) → (Ev (some (n, xs)) (d + 8) m_L_law 18 [some (vR 63 0), some (vR 0 0), some (vR 11 0), some (vI (a3 + (6 : Int32)))] [] s9 post)) ∧ (¬ (z5 = z10) → (post (some (vI (0 : Int32))) s9))))))))))))) : Ev (some (n, xs)) (d + 8) m_L_law 932 [some (vR 63 0), some (vR 0 0), some (vR 11 0), some (vI a3)] [] σ post := by
  refine ev_aload_n d_L_law_932 rfl rfl ?_
  refine ev_aload_n d_L_law_933 rfl rfl ?_
  refine ev_iload_n d_L_law_934 rfl rfl ?_
  refine ev_iconst (v := 1) d_L_law_935 (by decide) ?_
  refine ev_iadd d_L_law_936 ?_
  obtain ⟨q1, K⟩ := K
  refine ev_sld q1 d_L_law_937 ?_
  refine ev_aload_n d_L_law_938 rfl rfl ?_
  refine ev_iload_n d_L_law_939 rfl rfl ?_
  refine ev_iconst (v := 2) d_L_law_940 (by decide) ?_
  refine ev_iadd d_L_law_941 ?_
  obtain ⟨q2, K⟩ := K
  refine ev_sld q2 d_L_law_942 ?_
  refine ev_aload_n d_L_law_943 rfl rfl ?_
  refine ev_iload_n d_L_law_944 rfl rfl ?_
  refine ev_iconst (v := 3) d_L_law_945 (by decide) ?_
  refine ev_iadd d_L_law_946 ?_
  obtain ⟨q3, K⟩ := K
  refine ev_sld q3 d_L_law_947 ?_
  refine ev_callV (as := [vI (xs ((a3 + (1 : Int32)).toNatClampNeg)), vI (xs ((a3 + (2 : Int32)).toNatClampNeg)), vI (xs ((a3 + (3 : Int32)).toNatClampNeg))]) (st := []) (k := 0) (i := 0) g_O_done ml_L_106 rfl rfl (by decide) (by decide) d_L_law_948 rfl rfl (Nat.le_of_ble_eq_true rfl) rfl (Nat.le_of_ble_eq_true rfl) ?_
  refine Ev.mono K ?_
  rintro _ s4 ⟨z5, rfl, K⟩
  show Ev (some (n, xs)) (d + 8) m_L_law 951 [some (vR 63 0), some (vR 0 0), some (vR 11 0), some (vI a3)] [vJ z5] s4 post
  refine ev_aload_n d_L_law_951 rfl rfl ?_
  refine ev_aload_n d_L_law_952 rfl rfl ?_
  refine ev_iload_n d_L_law_953 rfl rfl ?_
  refine ev_iconst (v := 1) d_L_law_954 (by decide) ?_
  refine ev_iadd d_L_law_955 ?_
  obtain ⟨q6, K⟩ := K
  refine ev_sld q6 d_L_law_956 ?_
  refine ev_aload_n d_L_law_957 rfl rfl ?_
  refine ev_iload_n d_L_law_958 rfl rfl ?_
  refine ev_iconst (v := 2) d_L_law_959 (by decide) ?_
  refine ev_iadd d_L_law_960 ?_
  obtain ⟨q7, K⟩ := K
  refine ev_sld q7 d_L_law_961 ?_
  refine ev_aload_n d_L_law_962 rfl rfl ?_
  refine ev_iload_n d_L_law_963 rfl rfl ?_
  refine ev_iconst (v := 3) d_L_law_964 (by decide) ?_
  refine ev_iadd d_L_law_965 ?_
  obtain ⟨q8, K⟩ := K
  refine ev_sld q8 d_L_law_966 ?_
  refine ev_callV (as := [vI (xs ((a3 + (1 : Int32)).toNatClampNeg)), vI (xs ((a3 + (2 : Int32)).toNatClampNeg)), vI (xs ((a3 + (3 : Int32)).toNatClampNeg))]) (st := [vJ z5]) (k := 11) (i := 0) g_M_done ml_L_110 rfl rfl (by decide) (by decide) d_L_law_967 rfl rfl (Nat.le_of_ble_eq_true rfl) rfl (Nat.le_of_ble_eq_true rfl) ?_
  refine Ev.mono K ?_
  rintro _ s9 ⟨z10, rfl, K⟩
  show Ev (some (n, xs)) (d + 8) m_L_law 970 [some (vR 63 0), some (vR 0 0), some (vR 11 0), some (vI a3)] [vJ z10, vJ z5] s9 post
  refine ev_lcmp d_L_law_970 ?_
  refine ev_ifc_eq (tgt := 1305) d_L_law_971 rfl (fun h11 => ?_) (fun h11 => ?_)
  · replace K := K.1 h11
    refine ev_iinc (v := a3 + (6 : Int32)) (L' := [some (vR 63 0), some (vR 0 0), some (vR 11 0), some (vI (a3 + (6 : Int32)))]) d_L_law_1305 rfl (congrArg (a3 + ·) (by decide)) (by decide) rfl ?_
    refine ev_goto (tgt := 18) d_L_law_1308 rfl ?_
    exact K
  · replace K := K.2 h11
    refine ev_iconst (v := 0) d_L_law_974 (by decide) ?_
    exact ev_ret (r := some (vI (0 : Int32))) d_L_law_975 rfl ⟨rfl, (by decide)⟩ K
set_option maxRecDepth 4000 in
theorem sg_L_law_976 {d n : Nat} {xs : Nat → Int32} {σ : ST} {a3 : Int32} {post : Option AV → ST → Prop} (K : (vp_in (a3 + (1 : Int32)) n) ∧ ((vp_in (a3 + (2 : Int32)) n) ∧ (Ev none (d + 7) m_O_mean 0 [some (vR 0 0), some (vI (xs ((a3 + (1 : Int32)).toNatClampNeg))), some (vI (xs ((a3 + (2 : Int32)).toNatClampNeg)))] [] σ (fun r s3 => ∃ z4 : Int64, r = some (vJ z4) ∧ ((vp_in (a3 + (1 : Int32)) n) ∧ ((vp_in (a3 + (2 : Int32)) n) ∧ (Ev none (d + 7) m_M_mean 0 [some (vR 11 0), some (vI (xs ((a3 + (1 : Int32)).toNatClampNeg))), some (vI (xs ((a3 + (2 : Int32)).toNatClampNeg)))] [] s3 (fun r s7 => ∃ z8 : Int64, r = some (vJ z8) ∧ (((z4 = z8) → (Ev (some (n, xs)) (d + 8) m_L_law 18 [some (vR 63 0), some (vR 0 0), some (vR 11 0), some (vI (a3 + (6 : Int32)))] [] s7 post)) ∧ (¬ (z4 = z8) → (post (some (vI (0 : Int32))) s7))))))))))) : Ev (some (n, xs)) (d + 8) m_L_law 976 [some (vR 63 0), some (vR 0 0), some (vR 11 0), some (vI a3)] [] σ post := by
  refine ev_aload_n d_L_law_976 rfl rfl ?_
  refine ev_aload_n d_L_law_977 rfl rfl ?_
  refine ev_iload_n d_L_law_978 rfl rfl ?_
  refine ev_iconst (v := 1) d_L_law_979 (by decide) ?_
  refine ev_iadd d_L_law_980 ?_
  obtain ⟨q1, K⟩ := K
  refine ev_sld q1 d_L_law_981 ?_
  refine ev_aload_n d_L_law_982 rfl rfl ?_
  refine ev_iload_n d_L_law_983 rfl rfl ?_
  refine ev_iconst (v := 2) d_L_law_984 (by decide) ?_
  refine ev_iadd d_L_law_985 ?_
  obtain ⟨q2, K⟩ := K
  refine ev_sld q2 d_L_law_986 ?_
  refine ev_callV (as := [vI (xs ((a3 + (1 : Int32)).toNatClampNeg)), vI (xs ((a3 + (2 : Int32)).toNatClampNeg))]) (st := []) (k := 0) (i := 0) g_O_mean ml_L_111 rfl rfl (by decide) (by decide) d_L_law_987 rfl rfl (Nat.le_of_ble_eq_true rfl) rfl (Nat.le_of_ble_eq_true rfl) ?_
  refine Ev.mono K ?_
  rintro _ s3 ⟨z4, rfl, K⟩
  show Ev (some (n, xs)) (d + 8) m_L_law 990 [some (vR 63 0), some (vR 0 0), some (vR 11 0), some (vI a3)] [vJ z4] s3 post
  refine ev_aload_n d_L_law_990 rfl rfl ?_
  refine ev_aload_n d_L_law_991 rfl rfl ?_
  refine ev_iload_n d_L_law_992 rfl rfl ?_
  refine ev_iconst (v := 1) d_L_law_993 (by decide) ?_
  refine ev_iadd d_L_law_994 ?_
  obtain ⟨q5, K⟩ := K
  refine ev_sld q5 d_L_law_995 ?_
  refine ev_aload_n d_L_law_996 rfl rfl ?_
  refine ev_iload_n d_L_law_997 rfl rfl ?_
  refine ev_iconst (v := 2) d_L_law_998 (by decide) ?_
  refine ev_iadd d_L_law_999 ?_
  obtain ⟨q6, K⟩ := K
  refine ev_sld q6 d_L_law_1000 ?_
  refine ev_callV (as := [vI (xs ((a3 + (1 : Int32)).toNatClampNeg)), vI (xs ((a3 + (2 : Int32)).toNatClampNeg))]) (st := [vJ z4]) (k := 11) (i := 0) g_M_mean ml_L_115 rfl rfl (by decide) (by decide) d_L_law_1001 rfl rfl (Nat.le_of_ble_eq_true rfl) rfl (Nat.le_of_ble_eq_true rfl) ?_
  refine Ev.mono K ?_
  rintro _ s7 ⟨z8, rfl, K⟩
  show Ev (some (n, xs)) (d + 8) m_L_law 1004 [some (vR 63 0), some (vR 0 0), some (vR 11 0), some (vI a3)] [vJ z8, vJ z4] s7 post
  refine ev_lcmp d_L_law_1004 ?_
  refine ev_ifc_eq (tgt := 1305) d_L_law_1005 rfl (fun h9 => ?_) (fun h9 => ?_)
  · replace K := K.1 h9
    refine ev_iinc (v := a3 + (6 : Int32)) (L' := [some (vR 63 0), some (vR 0 0), some (vR 11 0), some (vI (a3 + (6 : Int32)))]) d_L_law_1305 rfl (congrArg (a3 + ·) (by decide)) (by decide) rfl ?_
    refine ev_goto (tgt := 18) d_L_law_1308 rfl ?_
    exact K
  · replace K := K.2 h9
    refine ev_iconst (v := 0) d_L_law_1008 (by decide) ?_
    exact ev_ret (r := some (vI (0 : Int32))) d_L_law_1009 rfl ⟨rfl, (by decide)⟩ K
set_option maxRecDepth 4000 in
theorem sg_L_law_1010 {d n : Nat} {xs : Nat → Int32} {σ : ST} {a3 : Int32} {post : Option AV → ST → Prop} (K : (vp_in (a3 + (1 : Int32)) n) ∧ ((vp_in (a3 + (2 : Int32)) n) ∧ ((vp_in (a3 + (3 : Int32)) n) ∧ (Ev none (d + 7) m_O_sheet 0 [some (vR 0 0), some (vI (xs ((a3 + (1 : Int32)).toNatClampNeg))), some (vI (xs ((a3 + (2 : Int32)).toNatClampNeg))), some (vI (xs ((a3 + (3 : Int32)).toNatClampNeg)))] [] σ (fun r s4 => ∃ z5 : Int32, r = some (vI z5) ∧ ((vp_in (a3 + (1 : Int32)) n) ∧ ((vp_in (a3 + (2 : Int32)) n) ∧ ((vp_in (a3 + (3 : Int32)) n) ∧ (Ev none (d + 7) m_M_sheet 0 [some (vR 11 0), some (vI (xs ((a3 + (1 : Int32)).toNatClampNeg))), some (vI (xs ((a3 + (2 : Int32)).toNatClampNeg))), some (vI (xs ((a3 + (3 : Int32)).toNatClampNeg))), none] [] s4 (fun r s9 => ∃ z10 : Int32, r = some (vI z10) ∧ (((z5 = z10) → (Ev (some (n, xs)) (d + 8) m_L_law 18 [some (vR 63 0), some (vR 0 0), some (vR 11 0), some (vI (a3 + (6 : Int32)))] [] s9 post)) ∧ (¬ (z5 = z10) → (post (some (vI (0 : Int32))) s9))))))))))))) : Ev (some (n, xs)) (d + 8) m_L_law 1010 [some (vR 63 0), some (vR 0 0), some (vR 11 0), some (vI a3)] [] σ post := by
  refine ev_aload_n d_L_law_1010 rfl rfl ?_
  refine ev_aload_n d_L_law_1011 rfl rfl ?_
  refine ev_iload_n d_L_law_1012 rfl rfl ?_
  refine ev_iconst (v := 1) d_L_law_1013 (by decide) ?_
  refine ev_iadd d_L_law_1014 ?_
  obtain ⟨q1, K⟩ := K
  refine ev_sld q1 d_L_law_1015 ?_
  refine ev_aload_n d_L_law_1016 rfl rfl ?_
  refine ev_iload_n d_L_law_1017 rfl rfl ?_
  refine ev_iconst (v := 2) d_L_law_1018 (by decide) ?_
  refine ev_iadd d_L_law_1019 ?_
  obtain ⟨q2, K⟩ := K
  refine ev_sld q2 d_L_law_1020 ?_
  refine ev_aload_n d_L_law_1021 rfl rfl ?_
  refine ev_iload_n d_L_law_1022 rfl rfl ?_
  refine ev_iconst (v := 3) d_L_law_1023 (by decide) ?_
  refine ev_iadd d_L_law_1024 ?_
  obtain ⟨q3, K⟩ := K
  refine ev_sld q3 d_L_law_1025 ?_
  refine ev_callV (as := [vI (xs ((a3 + (1 : Int32)).toNatClampNeg)), vI (xs ((a3 + (2 : Int32)).toNatClampNeg)), vI (xs ((a3 + (3 : Int32)).toNatClampNeg))]) (st := []) (k := 0) (i := 0) g_O_sheet ml_L_116 rfl rfl (by decide) (by decide) d_L_law_1026 rfl rfl (Nat.le_of_ble_eq_true rfl) rfl (Nat.le_of_ble_eq_true rfl) ?_
  refine Ev.mono K ?_
  rintro _ s4 ⟨z5, rfl, K⟩
  show Ev (some (n, xs)) (d + 8) m_L_law 1029 [some (vR 63 0), some (vR 0 0), some (vR 11 0), some (vI a3)] [vI z5] s4 post
  refine ev_aload_n d_L_law_1029 rfl rfl ?_
  refine ev_aload_n d_L_law_1030 rfl rfl ?_
  refine ev_iload_n d_L_law_1031 rfl rfl ?_
  refine ev_iconst (v := 1) d_L_law_1032 (by decide) ?_
  refine ev_iadd d_L_law_1033 ?_
  obtain ⟨q6, K⟩ := K
  refine ev_sld q6 d_L_law_1034 ?_
  refine ev_aload_n d_L_law_1035 rfl rfl ?_
  refine ev_iload_n d_L_law_1036 rfl rfl ?_
  refine ev_iconst (v := 2) d_L_law_1037 (by decide) ?_
  refine ev_iadd d_L_law_1038 ?_
  obtain ⟨q7, K⟩ := K
  refine ev_sld q7 d_L_law_1039 ?_
  refine ev_aload_n d_L_law_1040 rfl rfl ?_
  refine ev_iload_n d_L_law_1041 rfl rfl ?_
  refine ev_iconst (v := 3) d_L_law_1042 (by decide) ?_
  refine ev_iadd d_L_law_1043 ?_
  obtain ⟨q8, K⟩ := K
  refine ev_sld q8 d_L_law_1044 ?_
  refine ev_callV (as := [vI (xs ((a3 + (1 : Int32)).toNatClampNeg)), vI (xs ((a3 + (2 : Int32)).toNatClampNeg)), vI (xs ((a3 + (3 : Int32)).toNatClampNeg))]) (st := [vI z5]) (k := 11) (i := 0) g_M_sheet ml_L_119 rfl rfl (by decide) (by decide) d_L_law_1045 rfl rfl (Nat.le_of_ble_eq_true rfl) rfl (Nat.le_of_ble_eq_true rfl) ?_
  refine Ev.mono K ?_
  rintro _ s9 ⟨z10, rfl, K⟩
  show Ev (some (n, xs)) (d + 8) m_L_law 1048 [some (vR 63 0), some (vR 0 0), some (vR 11 0), some (vI a3)] [vI z10, vI z5] s9 post
  refine ev_icmp_eq (tgt := 1305) d_L_law_1048 rfl (fun h11 => ?_) (fun h11 => ?_)
  · replace K := K.1 h11
    refine ev_iinc (v := a3 + (6 : Int32)) (L' := [some (vR 63 0), some (vR 0 0), some (vR 11 0), some (vI (a3 + (6 : Int32)))]) d_L_law_1305 rfl (congrArg (a3 + ·) (by decide)) (by decide) rfl ?_
    refine ev_goto (tgt := 18) d_L_law_1308 rfl ?_
    exact K
  · replace K := K.2 h11
    refine ev_iconst (v := 0) d_L_law_1051 (by decide) ?_
    exact ev_ret (r := some (vI (0 : Int32))) d_L_law_1052 rfl ⟨rfl, (by decide)⟩ K
set_option maxRecDepth 4000 in
theorem sg_L_law_1053 {d n : Nat} {xs : Nat → Int32} {σ : ST} {a3 : Int32} {post : Option AV → ST → Prop} (K : (vp_in (a3 + (1 : Int32)) n) ∧ (Ev none (d + 7) m_O_lose 0 [some (vR 0 0), some (vI (xs ((a3 + (1 : Int32)).toNatClampNeg))), none] [] σ (fun r s2 => ∃ z3 : Int32, r = some (vI z3) ∧ ((vp_in (a3 + (1 : Int32)) n) ∧ (Ev none (d + 7) m_M_lose 0 [some (vR 11 0), some (vI (xs ((a3 + (1 : Int32)).toNatClampNeg)))] [] s2 (fun r s5 => ∃ z6 : Int32, r = some (vI z6) ∧ (((z3 = z6) → (Ev (some (n, xs)) (d + 8) m_L_law 18 [some (vR 63 0), some (vR 0 0), some (vR 11 0), some (vI (a3 + (6 : Int32)))] [] s5 post)) ∧ (¬ (z3 = z6) → (post (some (vI (0 : Int32))) s5))))))))) : Ev (some (n, xs)) (d + 8) m_L_law 1053 [some (vR 63 0), some (vR 0 0), some (vR 11 0), some (vI a3)] [] σ post := by
  refine ev_aload_n d_L_law_1053 rfl rfl ?_
  refine ev_aload_n d_L_law_1054 rfl rfl ?_
  refine ev_iload_n d_L_law_1055 rfl rfl ?_
  refine ev_iconst (v := 1) d_L_law_1056 (by decide) ?_
  refine ev_iadd d_L_law_1057 ?_
  obtain ⟨q1, K⟩ := K
  refine ev_sld q1 d_L_law_1058 ?_
  refine ev_callV (as := [vI (xs ((a3 + (1 : Int32)).toNatClampNeg))]) (st := []) (k := 0) (i := 0) g_O_lose ml_L_120 rfl rfl (by decide) (by decide) d_L_law_1059 rfl rfl (Nat.le_of_ble_eq_true rfl) rfl (Nat.le_of_ble_eq_true rfl) ?_
  refine Ev.mono K ?_
  rintro _ s2 ⟨z3, rfl, K⟩
  show Ev (some (n, xs)) (d + 8) m_L_law 1062 [some (vR 63 0), some (vR 0 0), some (vR 11 0), some (vI a3)] [vI z3] s2 post
  refine ev_aload_n d_L_law_1062 rfl rfl ?_
  refine ev_aload_n d_L_law_1063 rfl rfl ?_
  refine ev_iload_n d_L_law_1064 rfl rfl ?_
  refine ev_iconst (v := 1) d_L_law_1065 (by decide) ?_
  refine ev_iadd d_L_law_1066 ?_
  obtain ⟨q4, K⟩ := K
  refine ev_sld q4 d_L_law_1067 ?_
  refine ev_callV (as := [vI (xs ((a3 + (1 : Int32)).toNatClampNeg))]) (st := [vI z3]) (k := 11) (i := 0) g_M_lose ml_L_123 rfl rfl (by decide) (by decide) d_L_law_1068 rfl rfl (Nat.le_of_ble_eq_true rfl) rfl (Nat.le_of_ble_eq_true rfl) ?_
  refine Ev.mono K ?_
  rintro _ s5 ⟨z6, rfl, K⟩
  show Ev (some (n, xs)) (d + 8) m_L_law 1071 [some (vR 63 0), some (vR 0 0), some (vR 11 0), some (vI a3)] [vI z6, vI z3] s5 post
  refine ev_icmp_eq (tgt := 1305) d_L_law_1071 rfl (fun h7 => ?_) (fun h7 => ?_)
  · replace K := K.1 h7
    refine ev_iinc (v := a3 + (6 : Int32)) (L' := [some (vR 63 0), some (vR 0 0), some (vR 11 0), some (vI (a3 + (6 : Int32)))]) d_L_law_1305 rfl (congrArg (a3 + ·) (by decide)) (by decide) rfl ?_
    refine ev_goto (tgt := 18) d_L_law_1308 rfl ?_
    exact K
  · replace K := K.2 h7
    refine ev_iconst (v := 0) d_L_law_1074 (by decide) ?_
    exact ev_ret (r := some (vI (0 : Int32))) d_L_law_1075 rfl ⟨rfl, (by decide)⟩ K
set_option maxRecDepth 4000 in
theorem sg_L_law_1076 {d n : Nat} {xs : Nat → Int32} {σ : ST} {a3 : Int32} {post : Option AV → ST → Prop} (K : (vp_in (a3 + (1 : Int32)) n) ∧ ((vp_in (a3 + (2 : Int32)) n) ∧ ((vp_in (a3 + (3 : Int32)) n) ∧ ((vp_in (a3 + (4 : Int32)) n) ∧ (Ev none (d + 7) m_O_lay 0 [some (vR 0 0), some (vI (xs ((a3 + (1 : Int32)).toNatClampNeg))), some (vI (xs ((a3 + (2 : Int32)).toNatClampNeg))), some (vI (xs ((a3 + (3 : Int32)).toNatClampNeg))), some (vI (xs ((a3 + (4 : Int32)).toNatClampNeg))), none] [] σ (fun r s5 => ∃ z6 : Int32, r = some (vI z6) ∧ ((vp_in (a3 + (1 : Int32)) n) ∧ ((vp_in (a3 + (2 : Int32)) n) ∧ ((vp_in (a3 + (3 : Int32)) n) ∧ ((vp_in (a3 + (4 : Int32)) n) ∧ (Ev none (d + 7) m_M_lay 0 [some (vR 11 0), some (vI (xs ((a3 + (1 : Int32)).toNatClampNeg))), some (vI (xs ((a3 + (2 : Int32)).toNatClampNeg))), some (vI (xs ((a3 + (3 : Int32)).toNatClampNeg))), some (vI (xs ((a3 + (4 : Int32)).toNatClampNeg))), none] [] s5 (fun r s11 => ∃ z12 : Int32, r = some (vI z12) ∧ (((z6 = z12) → (Ev (some (n, xs)) (d + 8) m_L_law 18 [some (vR 63 0), some (vR 0 0), some (vR 11 0), some (vI (a3 + (6 : Int32)))] [] s11 post)) ∧ (¬ (z6 = z12) → (post (some (vI (0 : Int32))) s11))))))))))))))) : Ev (some (n, xs)) (d + 8) m_L_law 1076 [some (vR 63 0), some (vR 0 0), some (vR 11 0), some (vI a3)] [] σ post := by
  refine ev_aload_n d_L_law_1076 rfl rfl ?_
  refine ev_aload_n d_L_law_1077 rfl rfl ?_
  refine ev_iload_n d_L_law_1078 rfl rfl ?_
  refine ev_iconst (v := 1) d_L_law_1079 (by decide) ?_
  refine ev_iadd d_L_law_1080 ?_
  obtain ⟨q1, K⟩ := K
  refine ev_sld q1 d_L_law_1081 ?_
  refine ev_aload_n d_L_law_1082 rfl rfl ?_
  refine ev_iload_n d_L_law_1083 rfl rfl ?_
  refine ev_iconst (v := 2) d_L_law_1084 (by decide) ?_
  refine ev_iadd d_L_law_1085 ?_
  obtain ⟨q2, K⟩ := K
  refine ev_sld q2 d_L_law_1086 ?_
  refine ev_aload_n d_L_law_1087 rfl rfl ?_
  refine ev_iload_n d_L_law_1088 rfl rfl ?_
  refine ev_iconst (v := 3) d_L_law_1089 (by decide) ?_
  refine ev_iadd d_L_law_1090 ?_
  obtain ⟨q3, K⟩ := K
  refine ev_sld q3 d_L_law_1091 ?_
  refine ev_aload_n d_L_law_1092 rfl rfl ?_
  refine ev_iload_n d_L_law_1093 rfl rfl ?_
  refine ev_iconst (v := 4) d_L_law_1094 (by decide) ?_
  refine ev_iadd d_L_law_1095 ?_
  obtain ⟨q4, K⟩ := K
  refine ev_sld q4 d_L_law_1096 ?_
  refine ev_callV (as := [vI (xs ((a3 + (1 : Int32)).toNatClampNeg)), vI (xs ((a3 + (2 : Int32)).toNatClampNeg)), vI (xs ((a3 + (3 : Int32)).toNatClampNeg)), vI (xs ((a3 + (4 : Int32)).toNatClampNeg))]) (st := []) (k := 0) (i := 0) g_O_lay ml_L_124 rfl rfl (by decide) (by decide) d_L_law_1097 rfl rfl (Nat.le_of_ble_eq_true rfl) rfl (Nat.le_of_ble_eq_true rfl) ?_
  refine Ev.mono K ?_
  rintro _ s5 ⟨z6, rfl, K⟩
  show Ev (some (n, xs)) (d + 8) m_L_law 1100 [some (vR 63 0), some (vR 0 0), some (vR 11 0), some (vI a3)] [vI z6] s5 post
  refine ev_aload_n d_L_law_1100 rfl rfl ?_
  refine ev_aload_n d_L_law_1101 rfl rfl ?_
  refine ev_iload_n d_L_law_1102 rfl rfl ?_
  refine ev_iconst (v := 1) d_L_law_1103 (by decide) ?_
  refine ev_iadd d_L_law_1104 ?_
  obtain ⟨q7, K⟩ := K
  refine ev_sld q7 d_L_law_1105 ?_
  refine ev_aload_n d_L_law_1106 rfl rfl ?_
  refine ev_iload_n d_L_law_1107 rfl rfl ?_
  refine ev_iconst (v := 2) d_L_law_1108 (by decide) ?_
  refine ev_iadd d_L_law_1109 ?_
  obtain ⟨q8, K⟩ := K
  refine ev_sld q8 d_L_law_1110 ?_
  refine ev_aload_n d_L_law_1111 rfl rfl ?_
  refine ev_iload_n d_L_law_1112 rfl rfl ?_
  refine ev_iconst (v := 3) d_L_law_1113 (by decide) ?_
  refine ev_iadd d_L_law_1114 ?_
  obtain ⟨q9, K⟩ := K
  refine ev_sld q9 d_L_law_1115 ?_
  refine ev_aload_n d_L_law_1116 rfl rfl ?_
  refine ev_iload_n d_L_law_1117 rfl rfl ?_
  refine ev_iconst (v := 4) d_L_law_1118 (by decide) ?_
  refine ev_iadd d_L_law_1119 ?_
  obtain ⟨q10, K⟩ := K
  refine ev_sld q10 d_L_law_1120 ?_
  refine ev_callV (as := [vI (xs ((a3 + (1 : Int32)).toNatClampNeg)), vI (xs ((a3 + (2 : Int32)).toNatClampNeg)), vI (xs ((a3 + (3 : Int32)).toNatClampNeg)), vI (xs ((a3 + (4 : Int32)).toNatClampNeg))]) (st := [vI z6]) (k := 11) (i := 0) g_M_lay ml_L_127 rfl rfl (by decide) (by decide) d_L_law_1121 rfl rfl (Nat.le_of_ble_eq_true rfl) rfl (Nat.le_of_ble_eq_true rfl) ?_
  refine Ev.mono K ?_
  rintro _ s11 ⟨z12, rfl, K⟩
  show Ev (some (n, xs)) (d + 8) m_L_law 1124 [some (vR 63 0), some (vR 0 0), some (vR 11 0), some (vI a3)] [vI z12, vI z6] s11 post
  refine ev_icmp_eq (tgt := 1305) d_L_law_1124 rfl (fun h13 => ?_) (fun h13 => ?_)
  · replace K := K.1 h13
    refine ev_iinc (v := a3 + (6 : Int32)) (L' := [some (vR 63 0), some (vR 0 0), some (vR 11 0), some (vI (a3 + (6 : Int32)))]) d_L_law_1305 rfl (congrArg (a3 + ·) (by decide)) (by decide) rfl ?_
    refine ev_goto (tgt := 18) d_L_law_1308 rfl ?_
    exact K
  · replace K := K.2 h13
    refine ev_iconst (v := 0) d_L_law_1127 (by decide) ?_
    exact ev_ret (r := some (vI (0 : Int32))) d_L_law_1128 rfl ⟨rfl, (by decide)⟩ K
set_option maxRecDepth 4000 in
theorem sg_L_law_1129 {d n : Nat} {xs : Nat → Int32} {σ : ST} {a3 : Int32} {post : Option AV → ST → Prop} (K : (vp_in (a3 + (1 : Int32)) n) ∧ ((vp_in (a3 + (2 : Int32)) n) ∧ ((vp_in (a3 + (3 : Int32)) n) ∧ (Ev none (d + 7) m_O_get 0 [some (vR 0 0), some (vI (xs ((a3 + (1 : Int32)).toNatClampNeg))), some (vI (xs ((a3 + (2 : Int32)).toNatClampNeg))), some (vI (xs ((a3 + (3 : Int32)).toNatClampNeg))), none] [] σ (fun r s4 => ∃ z5 : Int32, r = some (vI z5) ∧ ((vp_in (a3 + (1 : Int32)) n) ∧ ((vp_in (a3 + (2 : Int32)) n) ∧ ((vp_in (a3 + (3 : Int32)) n) ∧ (Ev none (d + 7) m_M_get 0 [some (vR 11 0), some (vI (xs ((a3 + (1 : Int32)).toNatClampNeg))), some (vI (xs ((a3 + (2 : Int32)).toNatClampNeg))), some (vI (xs ((a3 + (3 : Int32)).toNatClampNeg)))] [] s4 (fun r s9 => ∃ z10 : Int32, r = some (vI z10) ∧ (((z5 = z10) → (Ev (some (n, xs)) (d + 8) m_L_law 18 [some (vR 63 0), some (vR 0 0), some (vR 11 0), some (vI (a3 + (6 : Int32)))] [] s9 post)) ∧ (¬ (z5 = z10) → (post (some (vI (0 : Int32))) s9))))))))))))) : Ev (some (n, xs)) (d + 8) m_L_law 1129 [some (vR 63 0), some (vR 0 0), some (vR 11 0), some (vI a3)] [] σ post := by
  refine ev_aload_n d_L_law_1129 rfl rfl ?_
  refine ev_aload_n d_L_law_1130 rfl rfl ?_
  refine ev_iload_n d_L_law_1131 rfl rfl ?_
  refine ev_iconst (v := 1) d_L_law_1132 (by decide) ?_
  refine ev_iadd d_L_law_1133 ?_
  obtain ⟨q1, K⟩ := K
  refine ev_sld q1 d_L_law_1134 ?_
  refine ev_aload_n d_L_law_1135 rfl rfl ?_
  refine ev_iload_n d_L_law_1136 rfl rfl ?_
  refine ev_iconst (v := 2) d_L_law_1137 (by decide) ?_
  refine ev_iadd d_L_law_1138 ?_
  obtain ⟨q2, K⟩ := K
  refine ev_sld q2 d_L_law_1139 ?_
  refine ev_aload_n d_L_law_1140 rfl rfl ?_
  refine ev_iload_n d_L_law_1141 rfl rfl ?_
  refine ev_iconst (v := 3) d_L_law_1142 (by decide) ?_
  refine ev_iadd d_L_law_1143 ?_
  obtain ⟨q3, K⟩ := K
  refine ev_sld q3 d_L_law_1144 ?_
  refine ev_callV (as := [vI (xs ((a3 + (1 : Int32)).toNatClampNeg)), vI (xs ((a3 + (2 : Int32)).toNatClampNeg)), vI (xs ((a3 + (3 : Int32)).toNatClampNeg))]) (st := []) (k := 0) (i := 0) g_O_get ml_L_128 rfl rfl (by decide) (by decide) d_L_law_1145 rfl rfl (Nat.le_of_ble_eq_true rfl) rfl (Nat.le_of_ble_eq_true rfl) ?_
  refine Ev.mono K ?_
  rintro _ s4 ⟨z5, rfl, K⟩
  show Ev (some (n, xs)) (d + 8) m_L_law 1148 [some (vR 63 0), some (vR 0 0), some (vR 11 0), some (vI a3)] [vI z5] s4 post
  refine ev_aload_n d_L_law_1148 rfl rfl ?_
  refine ev_aload_n d_L_law_1149 rfl rfl ?_
  refine ev_iload_n d_L_law_1150 rfl rfl ?_
  refine ev_iconst (v := 1) d_L_law_1151 (by decide) ?_
  refine ev_iadd d_L_law_1152 ?_
  obtain ⟨q6, K⟩ := K
  refine ev_sld q6 d_L_law_1153 ?_
  refine ev_aload_n d_L_law_1154 rfl rfl ?_
  refine ev_iload_n d_L_law_1155 rfl rfl ?_
  refine ev_iconst (v := 2) d_L_law_1156 (by decide) ?_
  refine ev_iadd d_L_law_1157 ?_
  obtain ⟨q7, K⟩ := K
  refine ev_sld q7 d_L_law_1158 ?_
  refine ev_aload_n d_L_law_1159 rfl rfl ?_
  refine ev_iload_n d_L_law_1160 rfl rfl ?_
  refine ev_iconst (v := 3) d_L_law_1161 (by decide) ?_
  refine ev_iadd d_L_law_1162 ?_
  obtain ⟨q8, K⟩ := K
  refine ev_sld q8 d_L_law_1163 ?_
  refine ev_callV (as := [vI (xs ((a3 + (1 : Int32)).toNatClampNeg)), vI (xs ((a3 + (2 : Int32)).toNatClampNeg)), vI (xs ((a3 + (3 : Int32)).toNatClampNeg))]) (st := [vI z5]) (k := 11) (i := 0) g_M_get ml_L_131 rfl rfl (by decide) (by decide) d_L_law_1164 rfl rfl (Nat.le_of_ble_eq_true rfl) rfl (Nat.le_of_ble_eq_true rfl) ?_
  refine Ev.mono K ?_
  rintro _ s9 ⟨z10, rfl, K⟩
  show Ev (some (n, xs)) (d + 8) m_L_law 1167 [some (vR 63 0), some (vR 0 0), some (vR 11 0), some (vI a3)] [vI z10, vI z5] s9 post
  refine ev_icmp_eq (tgt := 1305) d_L_law_1167 rfl (fun h11 => ?_) (fun h11 => ?_)
  · replace K := K.1 h11
    refine ev_iinc (v := a3 + (6 : Int32)) (L' := [some (vR 63 0), some (vR 0 0), some (vR 11 0), some (vI (a3 + (6 : Int32)))]) d_L_law_1305 rfl (congrArg (a3 + ·) (by decide)) (by decide) rfl ?_
    refine ev_goto (tgt := 18) d_L_law_1308 rfl ?_
    exact K
  · replace K := K.2 h11
    refine ev_iconst (v := 0) d_L_law_1170 (by decide) ?_
    exact ev_ret (r := some (vI (0 : Int32))) d_L_law_1171 rfl ⟨rfl, (by decide)⟩ K
set_option maxRecDepth 4000 in
theorem sg_L_law_1172 {d n : Nat} {xs : Nat → Int32} {σ : ST} {a3 : Int32} {post : Option AV → ST → Prop} (K : (vp_in (a3 + (1 : Int32)) n) ∧ ((vp_in (a3 + (2 : Int32)) n) ∧ ((vp_in (a3 + (3 : Int32)) n) ∧ ((vp_in (a3 + (4 : Int32)) n) ∧ ((vp_in (a3 + (5 : Int32)) n) ∧ (Ev none (d + 7) m_O_copy 0 [some (vR 0 0), some (vI (xs ((a3 + (1 : Int32)).toNatClampNeg))), some (vI (xs ((a3 + (2 : Int32)).toNatClampNeg))), some (vI (xs ((a3 + (3 : Int32)).toNatClampNeg))), some (vI (xs ((a3 + (4 : Int32)).toNatClampNeg))), some (vI (xs ((a3 + (5 : Int32)).toNatClampNeg))), none, none] [] σ (fun r s6 => ∃ z7 : Int32, r = some (vI z7) ∧ ((vp_in (a3 + (1 : Int32)) n) ∧ ((vp_in (a3 + (2 : Int32)) n) ∧ ((vp_in (a3 + (3 : Int32)) n) ∧ ((vp_in (a3 + (4 : Int32)) n) ∧ ((vp_in (a3 + (5 : Int32)) n) ∧ (Ev none (d + 7) m_M_copy 0 [some (vR 11 0), some (vI (xs ((a3 + (1 : Int32)).toNatClampNeg))), some (vI (xs ((a3 + (2 : Int32)).toNatClampNeg))), some (vI (xs ((a3 + (3 : Int32)).toNatClampNeg))), some (vI (xs ((a3 + (4 : Int32)).toNatClampNeg))), some (vI (xs ((a3 + (5 : Int32)).toNatClampNeg))), none] [] s6 (fun r s13 => ∃ z14 : Int32, r = some (vI z14) ∧ (((z7 = z14) → (Ev (some (n, xs)) (d + 8) m_L_law 18 [some (vR 63 0), some (vR 0 0), some (vR 11 0), some (vI (a3 + (6 : Int32)))] [] s13 post)) ∧ (¬ (z7 = z14) → (post (some (vI (0 : Int32))) s13))))))))))))))))) : Ev (some (n, xs)) (d + 8) m_L_law 1172 [some (vR 63 0), some (vR 0 0), some (vR 11 0), some (vI a3)] [] σ post := by
  refine ev_aload_n d_L_law_1172 rfl rfl ?_
  refine ev_aload_n d_L_law_1173 rfl rfl ?_
  refine ev_iload_n d_L_law_1174 rfl rfl ?_
  refine ev_iconst (v := 1) d_L_law_1175 (by decide) ?_
  refine ev_iadd d_L_law_1176 ?_
  obtain ⟨q1, K⟩ := K
  refine ev_sld q1 d_L_law_1177 ?_
  refine ev_aload_n d_L_law_1178 rfl rfl ?_
  refine ev_iload_n d_L_law_1179 rfl rfl ?_
  refine ev_iconst (v := 2) d_L_law_1180 (by decide) ?_
  refine ev_iadd d_L_law_1181 ?_
  obtain ⟨q2, K⟩ := K
  refine ev_sld q2 d_L_law_1182 ?_
  refine ev_aload_n d_L_law_1183 rfl rfl ?_
  refine ev_iload_n d_L_law_1184 rfl rfl ?_
  refine ev_iconst (v := 3) d_L_law_1185 (by decide) ?_
  refine ev_iadd d_L_law_1186 ?_
  obtain ⟨q3, K⟩ := K
  refine ev_sld q3 d_L_law_1187 ?_
  refine ev_aload_n d_L_law_1188 rfl rfl ?_
  refine ev_iload_n d_L_law_1189 rfl rfl ?_
  refine ev_iconst (v := 4) d_L_law_1190 (by decide) ?_
  refine ev_iadd d_L_law_1191 ?_
  obtain ⟨q4, K⟩ := K
  refine ev_sld q4 d_L_law_1192 ?_
  refine ev_aload_n d_L_law_1193 rfl rfl ?_
  refine ev_iload_n d_L_law_1194 rfl rfl ?_
  refine ev_iconst (v := 5) d_L_law_1195 (by decide) ?_
  refine ev_iadd d_L_law_1196 ?_
  obtain ⟨q5, K⟩ := K
  refine ev_sld q5 d_L_law_1197 ?_
  refine ev_callV (as := [vI (xs ((a3 + (1 : Int32)).toNatClampNeg)), vI (xs ((a3 + (2 : Int32)).toNatClampNeg)), vI (xs ((a3 + (3 : Int32)).toNatClampNeg)), vI (xs ((a3 + (4 : Int32)).toNatClampNeg)), vI (xs ((a3 + (5 : Int32)).toNatClampNeg))]) (st := []) (k := 0) (i := 0) g_O_copy ml_L_132 rfl rfl (by decide) (by decide) d_L_law_1198 rfl rfl (Nat.le_of_ble_eq_true rfl) rfl (Nat.le_of_ble_eq_true rfl) ?_
  refine Ev.mono K ?_
  rintro _ s6 ⟨z7, rfl, K⟩
  show Ev (some (n, xs)) (d + 8) m_L_law 1201 [some (vR 63 0), some (vR 0 0), some (vR 11 0), some (vI a3)] [vI z7] s6 post
  refine ev_aload_n d_L_law_1201 rfl rfl ?_
  refine ev_aload_n d_L_law_1202 rfl rfl ?_
  refine ev_iload_n d_L_law_1203 rfl rfl ?_
  refine ev_iconst (v := 1) d_L_law_1204 (by decide) ?_
  refine ev_iadd d_L_law_1205 ?_
  obtain ⟨q8, K⟩ := K
  refine ev_sld q8 d_L_law_1206 ?_
  refine ev_aload_n d_L_law_1207 rfl rfl ?_
  refine ev_iload_n d_L_law_1208 rfl rfl ?_
  refine ev_iconst (v := 2) d_L_law_1209 (by decide) ?_
  refine ev_iadd d_L_law_1210 ?_
  obtain ⟨q9, K⟩ := K
  refine ev_sld q9 d_L_law_1211 ?_
  refine ev_aload_n d_L_law_1212 rfl rfl ?_
  refine ev_iload_n d_L_law_1213 rfl rfl ?_
  refine ev_iconst (v := 3) d_L_law_1214 (by decide) ?_
  refine ev_iadd d_L_law_1215 ?_
  obtain ⟨q10, K⟩ := K
  refine ev_sld q10 d_L_law_1216 ?_
  refine ev_aload_n d_L_law_1217 rfl rfl ?_
  refine ev_iload_n d_L_law_1218 rfl rfl ?_
  refine ev_iconst (v := 4) d_L_law_1219 (by decide) ?_
  refine ev_iadd d_L_law_1220 ?_
  obtain ⟨q11, K⟩ := K
  refine ev_sld q11 d_L_law_1221 ?_
  refine ev_aload_n d_L_law_1222 rfl rfl ?_
  refine ev_iload_n d_L_law_1223 rfl rfl ?_
  refine ev_iconst (v := 5) d_L_law_1224 (by decide) ?_
  refine ev_iadd d_L_law_1225 ?_
  obtain ⟨q12, K⟩ := K
  refine ev_sld q12 d_L_law_1226 ?_
  refine ev_callV (as := [vI (xs ((a3 + (1 : Int32)).toNatClampNeg)), vI (xs ((a3 + (2 : Int32)).toNatClampNeg)), vI (xs ((a3 + (3 : Int32)).toNatClampNeg)), vI (xs ((a3 + (4 : Int32)).toNatClampNeg)), vI (xs ((a3 + (5 : Int32)).toNatClampNeg))]) (st := [vI z7]) (k := 11) (i := 0) g_M_copy ml_L_136 rfl rfl (by decide) (by decide) d_L_law_1227 rfl rfl (Nat.le_of_ble_eq_true rfl) rfl (Nat.le_of_ble_eq_true rfl) ?_
  refine Ev.mono K ?_
  rintro _ s13 ⟨z14, rfl, K⟩
  show Ev (some (n, xs)) (d + 8) m_L_law 1230 [some (vR 63 0), some (vR 0 0), some (vR 11 0), some (vI a3)] [vI z14, vI z7] s13 post
  refine ev_icmp_eq (tgt := 1305) d_L_law_1230 rfl (fun h15 => ?_) (fun h15 => ?_)
  · replace K := K.1 h15
    refine ev_iinc (v := a3 + (6 : Int32)) (L' := [some (vR 63 0), some (vR 0 0), some (vR 11 0), some (vI (a3 + (6 : Int32)))]) d_L_law_1305 rfl (congrArg (a3 + ·) (by decide)) (by decide) rfl ?_
    refine ev_goto (tgt := 18) d_L_law_1308 rfl ?_
    exact K
  · replace K := K.2 h15
    refine ev_iconst (v := 0) d_L_law_1233 (by decide) ?_
    exact ev_ret (r := some (vI (0 : Int32))) d_L_law_1234 rfl ⟨rfl, (by decide)⟩ K
set_option maxRecDepth 4000 in
theorem sg_L_law_1235 {d n : Nat} {xs : Nat → Int32} {σ : ST} {a3 : Int32} {post : Option AV → ST → Prop} (K : (vp_in (a3 + (1 : Int32)) n) ∧ ((vp_in (a3 + (2 : Int32)) n) ∧ (Ev none (d + 7) m_O_write 0 [some (vR 0 0), some (vI (xs ((a3 + (1 : Int32)).toNatClampNeg))), some (vI (xs ((a3 + (2 : Int32)).toNatClampNeg))), none, none, none] [] σ (fun r s3 => ∃ z4 : Int32, r = some (vI z4) ∧ ((vp_in (a3 + (1 : Int32)) n) ∧ ((vp_in (a3 + (2 : Int32)) n) ∧ (Ev none (d + 7) m_M_write 0 [some (vR 11 0), some (vI (xs ((a3 + (1 : Int32)).toNatClampNeg))), some (vI (xs ((a3 + (2 : Int32)).toNatClampNeg))), none, none] [] s3 (fun r s7 => ∃ z8 : Int32, r = some (vI z8) ∧ (((z4 = z8) → (Ev (some (n, xs)) (d + 8) m_L_law 18 [some (vR 63 0), some (vR 0 0), some (vR 11 0), some (vI (a3 + (6 : Int32)))] [] s7 post)) ∧ (¬ (z4 = z8) → (post (some (vI (0 : Int32))) s7))))))))))) : Ev (some (n, xs)) (d + 8) m_L_law 1235 [some (vR 63 0), some (vR 0 0), some (vR 11 0), some (vI a3)] [] σ post := by
  refine ev_aload_n d_L_law_1235 rfl rfl ?_
  refine ev_aload_n d_L_law_1236 rfl rfl ?_
  refine ev_iload_n d_L_law_1237 rfl rfl ?_
  refine ev_iconst (v := 1) d_L_law_1238 (by decide) ?_
  refine ev_iadd d_L_law_1239 ?_
  obtain ⟨q1, K⟩ := K
  refine ev_sld q1 d_L_law_1240 ?_
  refine ev_aload_n d_L_law_1241 rfl rfl ?_
  refine ev_iload_n d_L_law_1242 rfl rfl ?_
  refine ev_iconst (v := 2) d_L_law_1243 (by decide) ?_
  refine ev_iadd d_L_law_1244 ?_
  obtain ⟨q2, K⟩ := K
  refine ev_sld q2 d_L_law_1245 ?_
  refine ev_callV (as := [vI (xs ((a3 + (1 : Int32)).toNatClampNeg)), vI (xs ((a3 + (2 : Int32)).toNatClampNeg))]) (st := []) (k := 0) (i := 0) g_O_write ml_L_137 rfl rfl (by decide) (by decide) d_L_law_1246 rfl rfl (Nat.le_of_ble_eq_true rfl) rfl (Nat.le_of_ble_eq_true rfl) ?_
  refine Ev.mono K ?_
  rintro _ s3 ⟨z4, rfl, K⟩
  show Ev (some (n, xs)) (d + 8) m_L_law 1249 [some (vR 63 0), some (vR 0 0), some (vR 11 0), some (vI a3)] [vI z4] s3 post
  refine ev_aload_n d_L_law_1249 rfl rfl ?_
  refine ev_aload_n d_L_law_1250 rfl rfl ?_
  refine ev_iload_n d_L_law_1251 rfl rfl ?_
  refine ev_iconst (v := 1) d_L_law_1252 (by decide) ?_
  refine ev_iadd d_L_law_1253 ?_
  obtain ⟨q5, K⟩ := K
  refine ev_sld q5 d_L_law_1254 ?_
  refine ev_aload_n d_L_law_1255 rfl rfl ?_
  refine ev_iload_n d_L_law_1256 rfl rfl ?_
  refine ev_iconst (v := 2) d_L_law_1257 (by decide) ?_
  refine ev_iadd d_L_law_1258 ?_
  obtain ⟨q6, K⟩ := K
  refine ev_sld q6 d_L_law_1259 ?_
  refine ev_callV (as := [vI (xs ((a3 + (1 : Int32)).toNatClampNeg)), vI (xs ((a3 + (2 : Int32)).toNatClampNeg))]) (st := [vI z4]) (k := 11) (i := 0) g_M_write ml_L_140 rfl rfl (by decide) (by decide) d_L_law_1260 rfl rfl (Nat.le_of_ble_eq_true rfl) rfl (Nat.le_of_ble_eq_true rfl) ?_
  refine Ev.mono K ?_
  rintro _ s7 ⟨z8, rfl, K⟩
  show Ev (some (n, xs)) (d + 8) m_L_law 1263 [some (vR 63 0), some (vR 0 0), some (vR 11 0), some (vI a3)] [vI z8, vI z4] s7 post
  refine ev_icmp_eq (tgt := 1305) d_L_law_1263 rfl (fun h9 => ?_) (fun h9 => ?_)
  · replace K := K.1 h9
    refine ev_iinc (v := a3 + (6 : Int32)) (L' := [some (vR 63 0), some (vR 0 0), some (vR 11 0), some (vI (a3 + (6 : Int32)))]) d_L_law_1305 rfl (congrArg (a3 + ·) (by decide)) (by decide) rfl ?_
    refine ev_goto (tgt := 18) d_L_law_1308 rfl ?_
    exact K
  · replace K := K.2 h9
    refine ev_iconst (v := 0) d_L_law_1266 (by decide) ?_
    exact ev_ret (r := some (vI (0 : Int32))) d_L_law_1267 rfl ⟨rfl, (by decide)⟩ K
set_option maxRecDepth 4000 in
theorem sg_L_law_1268 {d n : Nat} {xs : Nat → Int32} {σ : ST} {a3 : Int32} {post : Option AV → ST → Prop} (K : (vp_in (a3 + (1 : Int32)) n) ∧ (Ev none (d + 7) m_O_count 0 [some (vR 0 0), some (vI (xs ((a3 + (1 : Int32)).toNatClampNeg)))] [] σ (fun r s2 => ∃ z3 : Int32, r = some (vI z3) ∧ ((vp_in (a3 + (1 : Int32)) n) ∧ (Ev none (d + 7) m_M_count 0 [some (vR 11 0), some (vI (xs ((a3 + (1 : Int32)).toNatClampNeg))), none, none] [] s2 (fun r s5 => ∃ z6 : Int32, r = some (vI z6) ∧ (((z3 = z6) → (Ev (some (n, xs)) (d + 8) m_L_law 18 [some (vR 63 0), some (vR 0 0), some (vR 11 0), some (vI (a3 + (6 : Int32)))] [] s5 post)) ∧ (¬ (z3 = z6) → (post (some (vI (0 : Int32))) s5))))))))) : Ev (some (n, xs)) (d + 8) m_L_law 1268 [some (vR 63 0), some (vR 0 0), some (vR 11 0), some (vI a3)] [] σ post := by
  refine ev_aload_n d_L_law_1268 rfl rfl ?_
  refine ev_aload_n d_L_law_1269 rfl rfl ?_
  refine ev_iload_n d_L_law_1270 rfl rfl ?_
  refine ev_iconst (v := 1) d_L_law_1271 (by decide) ?_
  refine ev_iadd d_L_law_1272 ?_
  obtain ⟨q1, K⟩ := K
  refine ev_sld q1 d_L_law_1273 ?_
  refine ev_callV (as := [vI (xs ((a3 + (1 : Int32)).toNatClampNeg))]) (st := []) (k := 0) (i := 0) g_O_count ml_L_141 rfl rfl (by decide) (by decide) d_L_law_1274 rfl rfl (Nat.le_of_ble_eq_true rfl) rfl (Nat.le_of_ble_eq_true rfl) ?_
  refine Ev.mono K ?_
  rintro _ s2 ⟨z3, rfl, K⟩
  show Ev (some (n, xs)) (d + 8) m_L_law 1277 [some (vR 63 0), some (vR 0 0), some (vR 11 0), some (vI a3)] [vI z3] s2 post
  refine ev_aload_n d_L_law_1277 rfl rfl ?_
  refine ev_aload_n d_L_law_1278 rfl rfl ?_
  refine ev_iload_n d_L_law_1279 rfl rfl ?_
  refine ev_iconst (v := 1) d_L_law_1280 (by decide) ?_
  refine ev_iadd d_L_law_1281 ?_
  obtain ⟨q4, K⟩ := K
  refine ev_sld q4 d_L_law_1282 ?_
  refine ev_callV (as := [vI (xs ((a3 + (1 : Int32)).toNatClampNeg))]) (st := [vI z3]) (k := 11) (i := 0) g_M_count ml_L_144 rfl rfl (by decide) (by decide) d_L_law_1283 rfl rfl (Nat.le_of_ble_eq_true rfl) rfl (Nat.le_of_ble_eq_true rfl) ?_
  refine Ev.mono K ?_
  rintro _ s5 ⟨z6, rfl, K⟩
  show Ev (some (n, xs)) (d + 8) m_L_law 1286 [some (vR 63 0), some (vR 0 0), some (vR 11 0), some (vI a3)] [vI z6, vI z3] s5 post
  refine ev_icmp_eq (tgt := 1305) d_L_law_1286 rfl (fun h7 => ?_) (fun h7 => ?_)
  · replace K := K.1 h7
    refine ev_iinc (v := a3 + (6 : Int32)) (L' := [some (vR 63 0), some (vR 0 0), some (vR 11 0), some (vI (a3 + (6 : Int32)))]) d_L_law_1305 rfl (congrArg (a3 + ·) (by decide)) (by decide) rfl ?_
    refine ev_goto (tgt := 18) d_L_law_1308 rfl ?_
    exact K
  · replace K := K.2 h7
    refine ev_iconst (v := 0) d_L_law_1289 (by decide) ?_
    exact ev_ret (r := some (vI (0 : Int32))) d_L_law_1290 rfl ⟨rfl, (by decide)⟩ K
set_option maxRecDepth 4000 in
theorem sg_L_law_1291 {d n : Nat} {xs : Nat → Int32} {σ : ST} {a3 : Int32} {post : Option AV → ST → Prop} (K : Ev none (d + 7) m_O_digest 0 [some (vR 0 0), none, none, none] [] σ (fun r s1 => ∃ z2 : Int64, r = some (vJ z2) ∧ (Ev none (d + 7) m_M_digest 0 [some (vR 11 0), none, none, none, none] [] s1 (fun r s3 => ∃ z4 : Int64, r = some (vJ z4) ∧ (((z2 = z4) → (Ev (some (n, xs)) (d + 8) m_L_law 18 [some (vR 63 0), some (vR 0 0), some (vR 11 0), some (vI (a3 + (6 : Int32)))] [] s3 post)) ∧ (¬ (z2 = z4) → (post (some (vI (0 : Int32))) s3))))))) : Ev (some (n, xs)) (d + 8) m_L_law 1291 [some (vR 63 0), some (vR 0 0), some (vR 11 0), some (vI a3)] [] σ post := by
  refine ev_aload_n d_L_law_1291 rfl rfl ?_
  refine ev_callV (as := []) (st := []) (k := 0) (i := 0) g_O_digest ml_L_145 rfl rfl (by decide) (by decide) d_L_law_1292 rfl rfl (Nat.le_of_ble_eq_true rfl) rfl (Nat.le_of_ble_eq_true rfl) ?_
  refine Ev.mono K ?_
  rintro _ s1 ⟨z2, rfl, K⟩
  show Ev (some (n, xs)) (d + 8) m_L_law 1295 [some (vR 63 0), some (vR 0 0), some (vR 11 0), some (vI a3)] [vJ z2] s1 post
  refine ev_aload_n d_L_law_1295 rfl rfl ?_
  refine ev_callV (as := []) (st := [vJ z2]) (k := 11) (i := 0) g_M_digest ml_L_149 rfl rfl (by decide) (by decide) d_L_law_1296 rfl rfl (Nat.le_of_ble_eq_true rfl) rfl (Nat.le_of_ble_eq_true rfl) ?_
  refine Ev.mono K ?_
  rintro _ s3 ⟨z4, rfl, K⟩
  show Ev (some (n, xs)) (d + 8) m_L_law 1299 [some (vR 63 0), some (vR 0 0), some (vR 11 0), some (vI a3)] [vJ z4, vJ z2] s3 post
  refine ev_lcmp d_L_law_1299 ?_
  refine ev_ifc_eq (tgt := 1305) d_L_law_1300 rfl (fun h5 => ?_) (fun h5 => ?_)
  · replace K := K.1 h5
    refine ev_iinc (v := a3 + (6 : Int32)) (L' := [some (vR 63 0), some (vR 0 0), some (vR 11 0), some (vI (a3 + (6 : Int32)))]) d_L_law_1305 rfl (congrArg (a3 + ·) (by decide)) (by decide) rfl ?_
    refine ev_goto (tgt := 18) d_L_law_1308 rfl ?_
    exact K
  · replace K := K.2 h5
    refine ev_iconst (v := 0) d_L_law_1303 (by decide) ?_
    exact ev_ret (r := some (vI (0 : Int32))) d_L_law_1304 rfl ⟨rfl, (by decide)⟩ K
