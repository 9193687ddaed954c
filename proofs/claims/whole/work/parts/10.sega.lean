-- segments (by program: wip/gen/gen_seg.py)
set_option maxRecDepth 4000 in
theorem sg_B_allLines_0 {d : Nat} {σ : ST}  {post : Option AV → ST → Prop} (K : Ev none d m_B_allLines 4 [some (vR 1 0), some (vI (0 : Int32)), some (vI (0 : Int32))] [] σ post) : Ev none d m_B_allLines 0 [some (vR 1 0), none, none] [] σ post := by
  refine ev_iconst (v := 0) d_B_allLines_0 (by decide) ?_
  refine ev_istore_n (L' := [some (vR 1 0), some (vI (0 : Int32)), none]) d_B_allLines_1 rfl (by decide) rfl ?_
  refine ev_iconst (v := 0) d_B_allLines_2 (by decide) ?_
  refine ev_istore_n (L' := [some (vR 1 0), some (vI (0 : Int32)), some (vI (0 : Int32))]) d_B_allLines_3 rfl (by decide) rfl ?_
  exact K
set_option maxRecDepth 4000 in
theorem sg_B_allLines_4 {d : Nat} {σ : ST} {a1 : Int32} {a2 : Int32} {post : Option AV → ST → Prop} (K : (((σ.1 1 0 4) ≤ a2) → (post (some (vI a1)) σ)) ∧ (¬ ((σ.1 1 0 4) ≤ a2) → ((vp_in a2 8) ∧ (Ev none d m_B_allLines 4 [some (vR 1 0), some (vI (a1 + (σ.1 14 0 (a2.toNatClampNeg)))), some (vI (a2 + (1 : Int32)))] [] σ post)))) : Ev none d m_B_allLines 4 [some (vR 1 0), some (vI a1), some (vI a2)] [] σ post := by
  refine ev_iload_n d_B_allLines_4 rfl rfl ?_
  refine ev_aload_n d_B_allLines_5 rfl rfl ?_
  refine ev_getI gf_B_25 rfl (by decide) d_B_allLines_6 ?_
  refine ev_icmp_ge (tgt := 27) d_B_allLines_9 rfl (fun h1 => ?_) (fun h1 => ?_)
  · replace K := K.1 h1
    refine ev_iload_n d_B_allLines_27 rfl rfl ?_
    exact ev_ret (r := some (vI a1)) d_B_allLines_28 rfl rfl K
  · replace K := K.2 h1
    refine ev_iload_n d_B_allLines_12 rfl rfl ?_
    refine ev_aload_n d_B_allLines_13 rfl rfl ?_
    refine ev_getR gf_B_18 rfl (by decide) d_B_allLines_14 ?_
    refine ev_iload_n d_B_allLines_17 rfl rfl ?_
    obtain ⟨q2, K⟩ := K
    refine ev_iald rfl (by decide) (by decide) q2 d_B_allLines_18 ?_
    refine ev_iadd d_B_allLines_19 ?_
    refine ev_istore_n (L' := [some (vR 1 0), some (vI (a1 + (σ.1 14 0 (a2.toNatClampNeg)))), some (vI a2)]) d_B_allLines_20 rfl (by decide) rfl ?_
    refine ev_iinc (v := a2 + (1 : Int32)) (L' := [some (vR 1 0), some (vI (a1 + (σ.1 14 0 (a2.toNatClampNeg)))), some (vI (a2 + (1 : Int32)))]) d_B_allLines_21 rfl (congrArg (a2 + ·) (by decide)) (by decide) rfl ?_
    refine ev_goto (tgt := 4) d_B_allLines_24 rfl ?_
    exact K
set_option maxRecDepth 4000 in
theorem sg_C_changeSkip_0 {d : Nat} {σ : ST} {a1 : Int32} {a2 : Int32} {post : Option AV → ST → Prop} (K : (vp_in a1 8) ∧ ((vp_in a1 8) ∧ (a2 = 0 ∨ a2 = 1) ∧ (((σ.1 16 0 (a1.toNatClampNeg)) = 0 ∨ (σ.1 16 0 (a1.toNatClampNeg)) = 1) ∧ post (some (vI (σ.1 16 0 (a1.toNatClampNeg)))) (setI σ 16 0 (a1.toNatClampNeg) a2)))) : Ev none d m_C_changeSkip 0 [some (vR 2 0), some (vI a1), some (vI a2), none] [] σ post := by
  refine ev_aload_n d_C_changeSkip_0 rfl rfl ?_
  refine ev_getR gf_C_17 rfl (by decide) d_C_changeSkip_1 ?_
  refine ev_iload_n d_C_changeSkip_4 rfl rfl ?_
  obtain ⟨q1, K⟩ := K
  refine ev_zald rfl (by decide) (by decide) q1 d_C_changeSkip_5 ?_
  refine ev_istore_n (L' := [some (vR 2 0), some (vI a1), some (vI a2), some (vI (σ.1 16 0 (a1.toNatClampNeg)))]) d_C_changeSkip_6 rfl (by decide) rfl ?_
  refine ev_aload_n d_C_changeSkip_7 rfl rfl ?_
  refine ev_getR gf_C_17 rfl (by decide) d_C_changeSkip_8 ?_
  refine ev_iload_n d_C_changeSkip_11 rfl rfl ?_
  refine ev_iload_n d_C_changeSkip_12 rfl rfl ?_
  obtain ⟨q2, q3, K⟩ := K
  refine ev_zast rfl (by decide) (by decide) q2 q3 d_C_changeSkip_13 ?_
  refine ev_iload_n d_C_changeSkip_14 rfl rfl ?_
  obtain ⟨q4, K⟩ := K
  exact ev_ret (r := some (vI (σ.1 16 0 (a1.toNatClampNeg)))) d_C_changeSkip_15 rfl ⟨rfl, q4⟩ K
set_option maxRecDepth 4000 in
theorem sg_R_changeLike_0 {d : Nat} {σ : ST} {i : Nat} {a1 : Int32} {a2 : Int32} {post : Option AV → ST → Prop} (hi : i < 6) (K : (vp_in a1 8) ∧ ((vp_in a1 8) ∧ (a2 = 0 ∨ a2 = 1) ∧ (((σ.1 18 i (a1.toNatClampNeg)) = 0 ∨ (σ.1 18 i (a1.toNatClampNeg)) = 1) ∧ post (some (vI (σ.1 18 i (a1.toNatClampNeg)))) (setI σ 18 i (a1.toNatClampNeg) a2)))) : Ev none d m_R_changeLike 0 [some (vR 3 i), some (vI a1), some (vI a2), none] [] σ post := by
  refine ev_aload_n d_R_changeLike_0 rfl rfl ?_
  refine ev_getO gf_R_15 rfl hi d_R_changeLike_1 ?_
  refine ev_iload_n d_R_changeLike_4 rfl rfl ?_
  obtain ⟨q1, K⟩ := K
  refine ev_zald rfl (by decide) hi q1 d_R_changeLike_5 ?_
  refine ev_istore_n (L' := [some (vR 3 i), some (vI a1), some (vI a2), some (vI (σ.1 18 i (a1.toNatClampNeg)))]) d_R_changeLike_6 rfl (by decide) rfl ?_
  refine ev_aload_n d_R_changeLike_7 rfl rfl ?_
  refine ev_getO gf_R_15 rfl hi d_R_changeLike_8 ?_
  refine ev_iload_n d_R_changeLike_11 rfl rfl ?_
  refine ev_iload_n d_R_changeLike_12 rfl rfl ?_
  obtain ⟨q2, q3, K⟩ := K
  refine ev_zast rfl (by decide) hi q2 q3 d_R_changeLike_13 ?_
  refine ev_iload_n d_R_changeLike_14 rfl rfl ?_
  obtain ⟨q4, K⟩ := K
  exact ev_ret (r := some (vI (σ.1 18 i (a1.toNatClampNeg)))) d_R_changeLike_15 rfl ⟨rfl, q4⟩ K
set_option maxRecDepth 4000 in
theorem sg_R_changePace_0 {d : Nat} {σ : ST} {i : Nat} {a1 : Int32} {a2 : Int32} {post : Option AV → ST → Prop} (hi : i < 6) (K : (vp_in a1 3) ∧ ((vp_in a1 3) ∧ (post (some (vI (σ.1 17 i (a1.toNatClampNeg)))) (setI σ 17 i (a1.toNatClampNeg) a2)))) : Ev none d m_R_changePace 0 [some (vR 3 i), some (vI a1), some (vI a2), none] [] σ post := by
  refine ev_aload_n d_R_changePace_0 rfl rfl ?_
  refine ev_getO gf_R_9 rfl hi d_R_changePace_1 ?_
  refine ev_iload_n d_R_changePace_4 rfl rfl ?_
  obtain ⟨q1, K⟩ := K
  refine ev_iald rfl (by decide) hi q1 d_R_changePace_5 ?_
  refine ev_istore_n (L' := [some (vR 3 i), some (vI a1), some (vI a2), some (vI (σ.1 17 i (a1.toNatClampNeg)))]) d_R_changePace_6 rfl (by decide) rfl ?_
  refine ev_aload_n d_R_changePace_7 rfl rfl ?_
  refine ev_getO gf_R_9 rfl hi d_R_changePace_8 ?_
  refine ev_iload_n d_R_changePace_11 rfl rfl ?_
  refine ev_iload_n d_R_changePace_12 rfl rfl ?_
  obtain ⟨q2, K⟩ := K
  refine ev_iast rfl (by decide) hi q2 d_R_changePace_13 ?_
  refine ev_iload_n d_R_changePace_14 rfl rfl ?_
  exact ev_ret (r := some (vI (σ.1 17 i (a1.toNatClampNeg)))) d_R_changePace_15 rfl rfl K
set_option maxRecDepth 4000 in
theorem sg_R_changeTrait_0 {d : Nat} {σ : ST} {i : Nat} {a1 : Int32} {a2 : Int32} {post : Option AV → ST → Prop} (hi : i < 6) (K : (vp_in a1 3) ∧ ((vp_in a1 3) ∧ (post (some (vI (σ.1 19 i (a1.toNatClampNeg)))) (setI σ 19 i (a1.toNatClampNeg) a2)))) : Ev none d m_R_changeTrait 0 [some (vR 3 i), some (vI a1), some (vI a2), none] [] σ post := by
  refine ev_aload_n d_R_changeTrait_0 rfl rfl ?_
  refine ev_getO gf_R_19 rfl hi d_R_changeTrait_1 ?_
  refine ev_iload_n d_R_changeTrait_4 rfl rfl ?_
  obtain ⟨q1, K⟩ := K
  refine ev_iald rfl (by decide) hi q1 d_R_changeTrait_5 ?_
  refine ev_istore_n (L' := [some (vR 3 i), some (vI a1), some (vI a2), some (vI (σ.1 19 i (a1.toNatClampNeg)))]) d_R_changeTrait_6 rfl (by decide) rfl ?_
  refine ev_aload_n d_R_changeTrait_7 rfl rfl ?_
  refine ev_getO gf_R_19 rfl hi d_R_changeTrait_8 ?_
  refine ev_iload_n d_R_changeTrait_11 rfl rfl ?_
  refine ev_iload_n d_R_changeTrait_12 rfl rfl ?_
  obtain ⟨q2, K⟩ := K
  refine ev_iast rfl (by decide) hi q2 d_R_changeTrait_13 ?_
  refine ev_iload_n d_R_changeTrait_14 rfl rfl ?_
  exact ev_ret (r := some (vI (σ.1 19 i (a1.toNatClampNeg)))) d_R_changeTrait_15 rfl rfl K
set_option maxRecDepth 4000 in
theorem sg_S_isRest_0 {d : Nat} {σ : ST} {a1 : Int32} {a2 : Int32} {post : Option AV → ST → Prop} (K : Ev none d m_S_isRest 9 [some (vR 6 0), some (vI a1), some (vI a2), some (vI (((4 : Int32) * a1) + a2)), some (vI (0 : Int32))] [] σ post) : Ev none d m_S_isRest 0 [some (vR 6 0), some (vI a1), some (vI a2), none, none] [] σ post := by
  refine ev_iconst (v := 4) d_S_isRest_0 (by decide) ?_
  refine ev_iload_n d_S_isRest_1 rfl rfl ?_
  refine ev_imul d_S_isRest_2 ?_
  refine ev_iload_n d_S_isRest_3 rfl rfl ?_
  refine ev_iadd d_S_isRest_4 ?_
  refine ev_istore_n (L' := [some (vR 6 0), some (vI a1), some (vI a2), some (vI (((4 : Int32) * a1) + a2)), none]) d_S_isRest_5 rfl (by decide) rfl ?_
  refine ev_iconst (v := 0) d_S_isRest_6 (by decide) ?_
  refine ev_istore (L' := [some (vR 6 0), some (vI a1), some (vI a2), some (vI (((4 : Int32) * a1) + a2)), some (vI (0 : Int32))]) d_S_isRest_7 (by decide) rfl ?_
  exact K
set_option maxRecDepth 4000 in
theorem sg_S_isRest_9 {d : Nat} {σ : ST} {a1 : Int32} {a2 : Int32} {a3 : Int32} {a4 : Int32} {post : Option AV → ST → Prop} (K : (((4 : Int32) ≤ a4) → (post (some (vI (1 : Int32))) σ)) ∧ (¬ ((4 : Int32) ≤ a4) → ((vp_in (((4 : Int32) * a4) + a2) 16) ∧ ((vp_in a3 16) ∧ (((((σ.1 26 0 (a3.toNatClampNeg)) < (σ.1 26 0 ((((4 : Int32) * a4) + a2).toNatClampNeg))) → True) ∧ (¬ ((σ.1 26 0 (a3.toNatClampNeg)) < (σ.1 26 0 ((((4 : Int32) * a4) + a2).toNatClampNeg))) → ((vp_in (((4 : Int32) * a1) + a4) 16) ∧ (vp_in a3 16)))) ∧ ((¬ ((σ.1 26 0 (a3.toNatClampNeg)) < (σ.1 26 0 ((((4 : Int32) * a4) + a2).toNatClampNeg))) ∧ ((σ.1 27 0 ((((4 : Int32) * a1) + a4).toNatClampNeg)) ≤ (σ.1 27 0 (a3.toNatClampNeg)))) → (Ev none d m_S_isRest 9 [some (vR 6 0), some (vI a1), some (vI a2), some (vI a3), some (vI (a4 + (1 : Int32)))] [] σ post)) ∧ (¬ (¬ ((σ.1 26 0 (a3.toNatClampNeg)) < (σ.1 26 0 ((((4 : Int32) * a4) + a2).toNatClampNeg))) ∧ ((σ.1 27 0 ((((4 : Int32) * a1) + a4).toNatClampNeg)) ≤ (σ.1 27 0 (a3.toNatClampNeg)))) → (post (some (vI (0 : Int32))) σ))))))) : Ev none d m_S_isRest 9 [some (vR 6 0), some (vI a1), some (vI a2), some (vI a3), some (vI a4)] [] σ post := by
  refine ev_iload d_S_isRest_9 rfl ?_
  refine ev_iconst (v := 4) d_S_isRest_11 (by decide) ?_
  refine ev_icmp_ge (tgt := 63) d_S_isRest_12 rfl (fun h1 => ?_) (fun h1 => ?_)
  · replace K := K.1 h1
    refine ev_iconst (v := 1) d_S_isRest_63 (by decide) ?_
    exact ev_ret (r := some (vI (1 : Int32))) d_S_isRest_64 rfl ⟨rfl, (by decide)⟩ K
  · replace K := K.2 h1
    refine ev_aload_n d_S_isRest_15 rfl rfl ?_
    refine ev_getR gf_S_11 rfl (by decide) d_S_isRest_16 ?_
    refine ev_iconst (v := 4) d_S_isRest_19 (by decide) ?_
    refine ev_iload d_S_isRest_20 rfl ?_
    refine ev_imul d_S_isRest_22 ?_
    refine ev_iload_n d_S_isRest_23 rfl rfl ?_
    refine ev_iadd d_S_isRest_24 ?_
    obtain ⟨q2, K⟩ := K
    refine ev_iald rfl (by decide) (by decide) q2 d_S_isRest_25 ?_
    refine ev_aload_n d_S_isRest_26 rfl rfl ?_
    refine ev_getR gf_S_11 rfl (by decide) d_S_isRest_27 ?_
    refine ev_iload_n d_S_isRest_30 rfl rfl ?_
    obtain ⟨q3, K⟩ := K
    refine ev_iald rfl (by decide) (by decide) q3 d_S_isRest_31 ?_
    obtain ⟨KS, K⟩ := K
    obtain ⟨w6, e7⟩ : ∃ w : Int32, w = bi (¬ ((σ.1 26 0 (a3.toNatClampNeg)) < (σ.1 26 0 ((((4 : Int32) * a4) + a2).toNatClampNeg))) ∧ ((σ.1 27 0 ((((4 : Int32) * a1) + a4).toNatClampNeg)) ≤ (σ.1 27 0 (a3.toNatClampNeg)))) := ⟨_, rfl⟩
    have J1 : w6 = 1 → Ev none d m_S_isRest 57 [some (vR 6 0), some (vI a1), some (vI a2), some (vI a3), some (vI a4)] [] σ post := by
      intro e71
      replace K := K.1 (bi_1.mp ((e7.symm).trans e71))
      refine ev_iinc (v := a4 + (1 : Int32)) (L' := [some (vR 6 0), some (vI a1), some (vI a2), some (vI a3), some (vI (a4 + (1 : Int32)))]) d_S_isRest_57 rfl (congrArg (a4 + ·) (by decide)) (by decide) rfl ?_
      refine ev_goto (tgt := 9) d_S_isRest_60 rfl ?_
      exact K
    have J0 : w6 = 0 → Ev none d m_S_isRest 55 [some (vR 6 0), some (vI a1), some (vI a2), some (vI a3), some (vI a4)] [] σ post := by
      intro e70
      replace K := K.2 (bi_0.mp ((e7.symm).trans e70))
      refine ev_iconst (v := 0) d_S_isRest_55 (by decide) ?_
      exact ev_ret (r := some (vI (0 : Int32))) d_S_isRest_56 rfl ⟨rfl, (by decide)⟩ K
    clear K
    refine ev_icmp_gt (tgt := 55) d_S_isRest_32 rfl (fun h8 => ?_) (fun h8 => ?_)
    · replace KS := KS.1 h8
      rw [b5t h8] at e7
      exact J0 e7
    · replace KS := KS.2 h8
      rw [b5f h8] at e7
      obtain ⟨q4, q5⟩ := KS
      refine ev_aload_n d_S_isRest_35 rfl rfl ?_
      refine ev_getR gf_S_15 rfl (by decide) d_S_isRest_36 ?_
      refine ev_iconst (v := 4) d_S_isRest_39 (by decide) ?_
      refine ev_iload_n d_S_isRest_40 rfl rfl ?_
      refine ev_imul d_S_isRest_41 ?_
      refine ev_iload d_S_isRest_42 rfl ?_
      refine ev_iadd d_S_isRest_44 ?_
      refine ev_iald rfl (by decide) (by decide) q4 d_S_isRest_45 ?_
      refine ev_aload_n d_S_isRest_46 rfl rfl ?_
      refine ev_getR gf_S_15 rfl (by decide) d_S_isRest_47 ?_
      refine ev_iload_n d_S_isRest_50 rfl rfl ?_
      refine ev_iald rfl (by decide) (by decide) q5 d_S_isRest_51 ?_
      refine ev_icmp_le (tgt := 57) d_S_isRest_52 rfl (fun h9 => ?_) (fun h9 => ?_)
      · rw [bi_t h9] at e7
        exact J1 e7
      · rw [bi_f h9] at e7
        exact J0 e7
set_option maxRecDepth 4000 in
theorem sg_U_append_0 {d : Nat} {σ : ST} {a1 : Int32} {a2 : Int32} {a3 : Int32} {post : Option AV → ST → Prop} (K : (((σ.1 8 0 4) < (8 : Int32)) → ((vp_in (σ.1 8 0 4) 8) ∧ ((vp_in ((setI σ 32 0 ((σ.1 8 0 4).toNatClampNeg) a1).1 8 0 4) 8) ∧ ((vp_in ((setI (setI σ 32 0 ((σ.1 8 0 4).toNatClampNeg) a1) 33 0 (((setI σ 32 0 ((σ.1 8 0 4).toNatClampNeg) a1).1 8 0 4).toNatClampNeg) a2).1 8 0 4) 8) ∧ (post (some (vI (1 : Int32))) (setI (setI (setI (setI σ 32 0 ((σ.1 8 0 4).toNatClampNeg) a1) 33 0 (((setI σ 32 0 ((σ.1 8 0 4).toNatClampNeg) a1).1 8 0 4).toNatClampNeg) a2) 34 0 (((setI (setI σ 32 0 ((σ.1 8 0 4).toNatClampNeg) a1) 33 0 (((setI σ 32 0 ((σ.1 8 0 4).toNatClampNeg) a1).1 8 0 4).toNatClampNeg) a2).1 8 0 4).toNatClampNeg) a3) 8 0 4 (((setI (setI (setI σ 32 0 ((σ.1 8 0 4).toNatClampNeg) a1) 33 0 (((setI σ 32 0 ((σ.1 8 0 4).toNatClampNeg) a1).1 8 0 4).toNatClampNeg) a2) 34 0 (((setI (setI σ 32 0 ((σ.1 8 0 4).toNatClampNeg) a1) 33 0 (((setI σ 32 0 ((σ.1 8 0 4).toNatClampNeg) a1).1 8 0 4).toNatClampNeg) a2).1 8 0 4).toNatClampNeg) a3).1 8 0 4) + (1 : Int32)))))))) ∧ (¬ ((σ.1 8 0 4) < (8 : Int32)) → (post (some (vI (0 : Int32))) σ))) : Ev none d m_U_append 0 [some (vR 8 0), some (vI a1), some (vI a2), some (vI a3)] [] σ post := by
  refine ev_aload_n d_U_append_0 rfl rfl ?_
  refine ev_getI gf_U_21 rfl (by decide) d_U_append_1 ?_
  refine ev_bipush (v := 8) d_U_append_4 (by decide) ?_
  refine ev_icmp_lt (tgt := 11) d_U_append_6 rfl (fun h1 => ?_) (fun h1 => ?_)
  · replace K := K.1 h1
    refine ev_aload_n d_U_append_11 rfl rfl ?_
    refine ev_getR gf_U_11 rfl (by decide) d_U_append_12 ?_
    refine ev_aload_n d_U_append_15 rfl rfl ?_
    refine ev_getI gf_U_21 rfl (by decide) d_U_append_16 ?_
    refine ev_iload_n d_U_append_19 rfl rfl ?_
    obtain ⟨q2, K⟩ := K
    refine ev_iast rfl (by decide) (by decide) q2 d_U_append_20 ?_
    refine ev_aload_n d_U_append_21 rfl rfl ?_
    refine ev_getR gf_U_15 rfl (by decide) d_U_append_22 ?_
    refine ev_aload_n d_U_append_25 rfl rfl ?_
    refine ev_getI gf_U_21 rfl (by decide) d_U_append_26 ?_
    refine ev_iload_n d_U_append_29 rfl rfl ?_
    obtain ⟨q3, K⟩ := K
    refine ev_iast rfl (by decide) (by decide) q3 d_U_append_30 ?_
    refine ev_aload_n d_U_append_31 rfl rfl ?_
    refine ev_getR gf_U_18 rfl (by decide) d_U_append_32 ?_
    refine ev_aload_n d_U_append_35 rfl rfl ?_
    refine ev_getI gf_U_21 rfl (by decide) d_U_append_36 ?_
    refine ev_iload_n d_U_append_39 rfl rfl ?_
    obtain ⟨q4, K⟩ := K
    refine ev_iast rfl (by decide) (by decide) q4 d_U_append_40 ?_
    refine ev_aload_n d_U_append_41 rfl rfl ?_
    refine ev_dup d_U_append_42 rfl ?_
    refine ev_getI gf_U_21 rfl (by decide) d_U_append_43 ?_
    refine ev_iconst (v := 1) d_U_append_46 (by decide) ?_
    refine ev_iadd d_U_append_47 ?_
    refine ev_putI gp_U_21 rfl (by decide) d_U_append_48 ?_
    refine ev_iconst (v := 1) d_U_append_51 (by decide) ?_
    exact ev_ret (r := some (vI (1 : Int32))) d_U_append_52 rfl ⟨rfl, (by decide)⟩ K
  · replace K := K.2 h1
    refine ev_iconst (v := 0) d_U_append_9 (by decide) ?_
    exact ev_ret (r := some (vI (0 : Int32))) d_U_append_10 rfl ⟨rfl, (by decide)⟩ K
set_option maxRecDepth 4000 in
theorem sg_U_clear_0 {d : Nat} {σ : ST}  {post : Option AV → ST → Prop} (K : post none (setI σ 8 0 4 (0 : Int32))) : Ev none d m_U_clear 0 [some (vR 8 0)] [] σ post := by
  refine ev_aload_n d_U_clear_0 rfl rfl ?_
  refine ev_iconst (v := 0) d_U_clear_1 (by decide) ?_
  refine ev_putI gp_U_21 rfl (by decide) d_U_clear_2 ?_
  exact ev_ret (r := none) d_U_clear_5 rfl rfl K
set_option maxRecDepth 4000 in
theorem sg_D_addOutcome_0 {d : Nat} {σ : ST} {a1 : Int32} {a2 : Int32} {post : Option AV → ST → Prop} (K : ((a2 = 0) → (post none σ)) ∧ (¬ (a2 = 0) → (Ev none d m_D_addOutcome 7 [some (vR 9 0), some (vI a1), some (vI a2), some (vI (0 : Int32))] [] σ post))) : Ev none d m_D_addOutcome 0 [some (vR 9 0), some (vI a1), some (vI a2), none] [] σ post := by
  refine ev_iload_n d_D_addOutcome_0 rfl rfl ?_
  refine ev_if_ne (tgt := 5) d_D_addOutcome_1 rfl (fun h1 => ?_) (fun h1 => ?_)
  · replace K := K.2 h1
    refine ev_iconst (v := 0) d_D_addOutcome_5 (by decide) ?_
    refine ev_istore_n (L' := [some (vR 9 0), some (vI a1), some (vI a2), some (vI (0 : Int32))]) d_D_addOutcome_6 rfl (by decide) rfl ?_
    exact K
  · replace K := K.1 h1
    exact ev_ret (r := none) d_D_addOutcome_4 rfl rfl K
set_option maxRecDepth 4000 in
theorem sg_D_addOutcome_7 {d : Nat} {σ : ST} {a1 : Int32} {a2 : Int32} {a3 : Int32} {post : Option AV → ST → Prop} (K : (((σ.1 9 0 6) ≤ a3) → ((((8 : Int32) ≤ (σ.1 9 0 6)) → (post none σ)) ∧ (¬ ((8 : Int32) ≤ (σ.1 9 0 6)) → ((vp_in (σ.1 9 0 6) 8) ∧ ((vp_in ((setI σ 38 0 ((σ.1 9 0 6).toNatClampNeg) a1).1 9 0 6) 8) ∧ (post none (setI (setI (setI σ 38 0 ((σ.1 9 0 6).toNatClampNeg) a1) 39 0 (((setI σ 38 0 ((σ.1 9 0 6).toNatClampNeg) a1).1 9 0 6).toNatClampNeg) a2) 9 0 6 (((setI (setI σ 38 0 ((σ.1 9 0 6).toNatClampNeg) a1) 39 0 (((setI σ 38 0 ((σ.1 9 0 6).toNatClampNeg) a1).1 9 0 6).toNatClampNeg) a2).1 9 0 6) + (1 : Int32))))))))) ∧ (¬ ((σ.1 9 0 6) ≤ a3) → ((vp_in a3 8) ∧ ((((σ.1 38 0 (a3.toNatClampNeg)) = a1) → ((vp_in a3 8) ∧ ((vp_in a3 8) ∧ (post none (setI σ 39 0 (a3.toNatClampNeg) ((σ.1 39 0 (a3.toNatClampNeg)) + a2)))))) ∧ (¬ ((σ.1 38 0 (a3.toNatClampNeg)) = a1) → (Ev none d m_D_addOutcome 7 [some (vR 9 0), some (vI a1), some (vI a2), some (vI (a3 + (1 : Int32)))] [] σ post)))))) : Ev none d m_D_addOutcome 7 [some (vR 9 0), some (vI a1), some (vI a2), some (vI a3)] [] σ post := by
  refine ev_iload_n d_D_addOutcome_7 rfl rfl ?_
  refine ev_aload_n d_D_addOutcome_8 rfl rfl ?_
  refine ev_getI gf_D_28 rfl (by decide) d_D_addOutcome_9 ?_
  refine ev_icmp_ge (tgt := 42) d_D_addOutcome_12 rfl (fun h1 => ?_) (fun h1 => ?_)
  · replace K := K.1 h1
    refine ev_aload_n d_D_addOutcome_42 rfl rfl ?_
    refine ev_getI gf_D_28 rfl (by decide) d_D_addOutcome_43 ?_
    refine ev_bipush (v := 8) d_D_addOutcome_46 (by decide) ?_
    refine ev_icmp_ge (tgt := 81) d_D_addOutcome_48 rfl (fun h2 => ?_) (fun h2 => ?_)
    · replace K := K.1 h2
      exact ev_ret (r := none) d_D_addOutcome_81 rfl rfl K
    · replace K := K.2 h2
      refine ev_aload_n d_D_addOutcome_51 rfl rfl ?_
      refine ev_getR gf_D_22 rfl (by decide) d_D_addOutcome_52 ?_
      refine ev_aload_n d_D_addOutcome_55 rfl rfl ?_
      refine ev_getI gf_D_28 rfl (by decide) d_D_addOutcome_56 ?_
      refine ev_iload_n d_D_addOutcome_59 rfl rfl ?_
      obtain ⟨q3, K⟩ := K
      refine ev_iast rfl (by decide) (by decide) q3 d_D_addOutcome_60 ?_
      refine ev_aload_n d_D_addOutcome_61 rfl rfl ?_
      refine ev_getR gf_D_25 rfl (by decide) d_D_addOutcome_62 ?_
      refine ev_aload_n d_D_addOutcome_65 rfl rfl ?_
      refine ev_getI gf_D_28 rfl (by decide) d_D_addOutcome_66 ?_
      refine ev_iload_n d_D_addOutcome_69 rfl rfl ?_
      obtain ⟨q4, K⟩ := K
      refine ev_iast rfl (by decide) (by decide) q4 d_D_addOutcome_70 ?_
      refine ev_aload_n d_D_addOutcome_71 rfl rfl ?_
      refine ev_dup d_D_addOutcome_72 rfl ?_
      refine ev_getI gf_D_28 rfl (by decide) d_D_addOutcome_73 ?_
      refine ev_iconst (v := 1) d_D_addOutcome_76 (by decide) ?_
      refine ev_iadd d_D_addOutcome_77 ?_
      refine ev_putI gp_D_28 rfl (by decide) d_D_addOutcome_78 ?_
      exact ev_ret (r := none) d_D_addOutcome_81 rfl rfl K
  · replace K := K.2 h1
    refine ev_aload_n d_D_addOutcome_15 rfl rfl ?_
    refine ev_getR gf_D_22 rfl (by decide) d_D_addOutcome_16 ?_
    refine ev_iload_n d_D_addOutcome_19 rfl rfl ?_
    obtain ⟨q5, K⟩ := K
    refine ev_iald rfl (by decide) (by decide) q5 d_D_addOutcome_20 ?_
    refine ev_iload_n d_D_addOutcome_21 rfl rfl ?_
    refine ev_icmp_ne (tgt := 36) d_D_addOutcome_22 rfl (fun h6 => ?_) (fun h6 => ?_)
    · replace K := K.2 h6
      refine ev_iinc (v := a3 + (1 : Int32)) (L' := [some (vR 9 0), some (vI a1), some (vI a2), some (vI (a3 + (1 : Int32)))]) d_D_addOutcome_36 rfl (congrArg (a3 + ·) (by decide)) (by decide) rfl ?_
      refine ev_goto (tgt := 7) d_D_addOutcome_39 rfl ?_
      exact K
    · replace K := K.1 h6
      refine ev_aload_n d_D_addOutcome_25 rfl rfl ?_
      refine ev_getR gf_D_25 rfl (by decide) d_D_addOutcome_26 ?_
      refine ev_iload_n d_D_addOutcome_29 rfl rfl ?_
      refine ev_dup2 d_D_addOutcome_30 rfl rfl ?_
      obtain ⟨q7, K⟩ := K
      refine ev_iald rfl (by decide) (by decide) q7 d_D_addOutcome_31 ?_
      refine ev_iload_n d_D_addOutcome_32 rfl rfl ?_
      refine ev_iadd d_D_addOutcome_33 ?_
      obtain ⟨q8, K⟩ := K
      refine ev_iast rfl (by decide) (by decide) q8 d_D_addOutcome_34 ?_
      exact ev_ret (r := none) d_D_addOutcome_35 rfl rfl K
set_option maxRecDepth 4000 in
theorem sg_D_commonDivisor_0 {d : Nat} {σ : ST} {a0 : Int64} {a2 : Int64} {post : Option AV → ST → Prop} (K : Ev none d m_D_commonDivisor 9 [none, none, none, none, some (vJ a0), none, some (vJ a2), none, some (vI (0 : Int32)), none, none] [] σ post) : Ev none d m_D_commonDivisor 0 [some (vJ a0), none, some (vJ a2), none, none, none, none, none, none, none, none] [] σ post := by
  refine ev_lload_n d_D_commonDivisor_0 rfl rfl ?_
  refine ev_lstore (L' := [some (vJ a0), none, some (vJ a2), none, some (vJ a0), none, none, none, none, none, none]) d_D_commonDivisor_1 (by decide) rfl ?_
  refine ev_lload_n d_D_commonDivisor_3 rfl rfl ?_
  refine ev_lstore (L' := [some (vJ a0), none, some (vJ a2), none, some (vJ a0), none, some (vJ a2), none, none, none, none]) d_D_commonDivisor_4 (by decide) rfl ?_
  refine ev_iconst (v := 0) d_D_commonDivisor_6 (by decide) ?_
  refine ev_istore (L' := [some (vJ a0), none, some (vJ a2), none, some (vJ a0), none, some (vJ a2), none, some (vI (0 : Int32)), none, none]) d_D_commonDivisor_7 (by decide) rfl ?_
  exact Ev.wk (lsub_sk (lsub_sk (lsub_sk (lsub_sk (lsub_kp (lsub_sk (lsub_kp (lsub_sk (lsub_kp (lsub_sk (lsub_sk (lsub_nil)))))))))))) K
set_option maxRecDepth 4000 in
theorem sg_D_commonDivisor_9 {d : Nat} {σ : ST} {a4 : Int64} {a6 : Int64} {a8 : Int32} {post : Option AV → ST → Prop} (K : ((((200 : Int32) ≤ a8) ∨ (a6 = (0 : Int64))) → (post (some (vJ a4)) σ)) ∧ (¬ (((200 : Int32) ≤ a8) ∨ (a6 = (0 : Int64))) → ((¬ a6 = 0) ∧ (Ev none d m_D_commonDivisor 9 [none, none, none, none, some (vJ a6), none, some (vJ (lrm a4 a6)), none, some (vI (a8 + (1 : Int32))), none, none] [] σ post)))) : Ev none d m_D_commonDivisor 9 [none, none, none, none, some (vJ a4), none, some (vJ a6), none, some (vI a8), none, none] [] σ post := by
  refine ev_iload d_D_commonDivisor_9 rfl ?_
  refine ev_sipush (v := 200) d_D_commonDivisor_11 (by decide) ?_
  obtain ⟨w1, e2⟩ : ∃ w : Int32, w = bi (((200 : Int32) ≤ a8) ∨ (a6 = (0 : Int64))) := ⟨_, rfl⟩
  have J1 : w1 = 1 → Ev none d m_D_commonDivisor 45 [none, none, none, none, some (vJ a4), none, some (vJ a6), none, some (vI a8), none, none] [] σ post := by
    intro e21
    replace K := K.1 (bi_1.mp ((e2.symm).trans e21))
    refine ev_lload d_D_commonDivisor_45 rfl ?_
    exact ev_ret (r := some (vJ a4)) d_D_commonDivisor_47 rfl rfl K
  have J0 : w1 = 0 → Ev none d m_D_commonDivisor 24 [none, none, none, none, some (vJ a4), none, some (vJ a6), none, some (vI a8), none, none] [] σ post := by
    intro e20
    replace K := K.2 (bi_0.mp ((e2.symm).trans e20))
    refine ev_lload d_D_commonDivisor_24 rfl ?_
    refine ev_lload d_D_commonDivisor_26 rfl ?_
    obtain ⟨q3, K⟩ := K
    refine ev_lrem d_D_commonDivisor_28 q3 ?_
    refine ev_lstore (L' := [none, none, none, none, some (vJ a4), none, some (vJ a6), none, some (vI a8), some (vJ (lrm a4 a6)), none]) d_D_commonDivisor_29 (by decide) rfl ?_
    refine ev_lload d_D_commonDivisor_31 rfl ?_
    refine ev_lstore (L' := [none, none, none, none, some (vJ a6), none, some (vJ a6), none, some (vI a8), some (vJ (lrm a4 a6)), none]) d_D_commonDivisor_33 (by decide) rfl ?_
    refine ev_lload d_D_commonDivisor_35 rfl ?_
    refine ev_lstore (L' := [none, none, none, none, some (vJ a6), none, some (vJ (lrm a4 a6)), none, some (vI a8), some (vJ (lrm a4 a6)), none]) d_D_commonDivisor_37 (by decide) rfl ?_
    refine ev_iinc (v := a8 + (1 : Int32)) (L' := [none, none, none, none, some (vJ a6), none, some (vJ (lrm a4 a6)), none, some (vI (a8 + (1 : Int32))), some (vJ (lrm a4 a6)), none]) d_D_commonDivisor_39 rfl (congrArg (a8 + ·) (by decide)) (by decide) rfl ?_
    refine ev_goto (tgt := 9) d_D_commonDivisor_42 rfl ?_
    exact Ev.wk (lsub_sk (lsub_sk (lsub_sk (lsub_sk (lsub_kp (lsub_sk (lsub_kp (lsub_sk (lsub_kp (lsub_sk (lsub_sk (lsub_nil)))))))))))) K
  clear K
  refine ev_icmp_ge (tgt := 45) d_D_commonDivisor_14 rfl (fun h4 => ?_) (fun h4 => ?_)
  · rw [b4t h4] at e2
    exact J1 e2
  · rw [b4f h4] at e2
    refine ev_lload d_D_commonDivisor_17 rfl ?_
    refine ev_lconst (v := 0) d_D_commonDivisor_19 (by decide) ?_
    refine ev_lcmp d_D_commonDivisor_20 ?_
    refine ev_ifc_eq (tgt := 45) d_D_commonDivisor_21 rfl (fun h5 => ?_) (fun h5 => ?_)
    · rw [bi_t h5] at e2
      exact J1 e2
    · rw [bi_f h5] at e2
      exact J0 e2
set_option maxRecDepth 4000 in
theorem sg_D_readOn_0 {d : Nat} {σ : ST} {a1 : Int32} {post : Option AV → ST → Prop} (K : Ev none d m_D_readOn 2 [some (vR 9 0), none, some (vI a1), none, none, none] [] σ post) : Ev none d m_D_readOn 0 [some (vR 9 0), some (vI a1), none, none, none, none] [] σ post := by
  refine ev_iload_n d_D_readOn_0 rfl rfl ?_
  refine ev_istore_n (L' := [some (vR 9 0), some (vI a1), some (vI a1), none, none, none]) d_D_readOn_1 rfl (by decide) rfl ?_
  exact Ev.wk (lsub_kp (lsub_sk (lsub_kp (lsub_sk (lsub_sk (lsub_sk (lsub_nil))))))) K
set_option maxRecDepth 4000 in
theorem sg_D_readOn_2 {d : Nat} {σ : ST} {a2 : Int32} {post : Option AV → ST → Prop} (K : ((a2 < 0) → (post none σ)) ∧ (¬ (a2 < 0) → (Ev none d m_D_readOn 11 [some (vR 9 0), none, some (vI a2), some (vJ (0 : Int64)), none, some (vI (0 : Int32))] [] σ post))) : Ev none d m_D_readOn 2 [some (vR 9 0), none, some (vI a2), none, none, none] [] σ post := by
  refine ev_iload_n d_D_readOn_2 rfl rfl ?_
  refine ev_if_lt (tgt := 76) d_D_readOn_3 rfl (fun h1 => ?_) (fun h1 => ?_)
  · replace K := K.1 h1
    exact ev_ret (r := none) d_D_readOn_76 rfl rfl K
  · replace K := K.2 h1
    refine ev_lconst (v := 0) d_D_readOn_6 (by decide) ?_
    refine ev_lstore_n (L' := [some (vR 9 0), none, some (vI a2), some (vJ (0 : Int64)), none, none]) d_D_readOn_7 rfl (by decide) rfl ?_
    refine ev_iconst (v := 0) d_D_readOn_8 (by decide) ?_
    refine ev_istore (L' := [some (vR 9 0), none, some (vI a2), some (vJ (0 : Int64)), none, some (vI (0 : Int32))]) d_D_readOn_9 (by decide) rfl ?_
    exact K
set_option maxRecDepth 4000 in
theorem sg_D_readOn_11 {d : Nat} {σ : ST} {a2 : Int32} {a3 : Int64} {a5 : Int32} {post : Option AV → ST → Prop} (K : (((σ.1 9 0 6) ≤ a5) → ((vp_in a2 3169) ∧ (Ev none d m_D_readOn 2 [some (vR 9 0), none, some (vI (a2 + (-1 : Int32))), none, none, none] [] (setJ σ 35 0 (a2.toNatClampNeg) a3) post))) ∧ (¬ ((σ.1 9 0 6) ≤ a5) → ((vp_in a5 8) ∧ ((((a2 < (σ.1 38 0 (a5.toNatClampNeg))) → True) ∧ (¬ (a2 < (σ.1 38 0 (a5.toNatClampNeg))) → ((vp_in a5 8) ∧ (vp_in a5 8) ∧ (vp_in (a2 - (σ.1 38 0 (a5.toNatClampNeg))) 3169)))) ∧ (∀ z8 : Int64, z8 = (if a2 < (σ.1 38 0 (a5.toNatClampNeg)) then a3 else (a3 + ((Int32.toInt64 (σ.1 39 0 (a5.toNatClampNeg))) * (σ.2 35 0 ((a2 - (σ.1 38 0 (a5.toNatClampNeg))).toNatClampNeg))))) → (Ev none d m_D_readOn 11 [some (vR 9 0), none, some (vI a2), some (vJ z8), none, some (vI (a5 + (1 : Int32)))] [] σ post)))))) : Ev none d m_D_readOn 11 [some (vR 9 0), none, some (vI a2), some (vJ a3), none, some (vI a5)] [] σ post := by
  refine ev_iload d_D_readOn_11 rfl ?_
  refine ev_aload_n d_D_readOn_13 rfl rfl ?_
  refine ev_getI gf_D_28 rfl (by decide) d_D_readOn_14 ?_
  refine ev_icmp_ge (tgt := 63) d_D_readOn_17 rfl (fun h2 => ?_) (fun h2 => ?_)
  · replace K := K.1 h2
    refine ev_aload_n d_D_readOn_63 rfl rfl ?_
    refine ev_getR gf_D_11 rfl (by decide) d_D_readOn_64 ?_
    refine ev_iload_n d_D_readOn_67 rfl rfl ?_
    refine ev_lload_n d_D_readOn_68 rfl rfl ?_
    obtain ⟨q3, K⟩ := K
    refine ev_last rfl (by decide) (by decide) q3 d_D_readOn_69 ?_
    refine ev_iinc (v := a2 + (-1 : Int32)) (L' := [some (vR 9 0), none, some (vI (a2 + (-1 : Int32))), some (vJ a3), none, some (vI a5)]) d_D_readOn_70 rfl (congrArg (a2 + ·) (by decide)) (by decide) rfl ?_
    refine ev_goto (tgt := 2) d_D_readOn_73 rfl ?_
    exact Ev.wk (lsub_kp (lsub_sk (lsub_kp (lsub_sk (lsub_sk (lsub_sk (lsub_nil))))))) K
  · replace K := K.2 h2
    refine ev_aload_n d_D_readOn_20 rfl rfl ?_
    refine ev_getR gf_D_22 rfl (by decide) d_D_readOn_21 ?_
    refine ev_iload d_D_readOn_24 rfl ?_
    obtain ⟨q4, K⟩ := K
    refine ev_iald rfl (by decide) (by decide) q4 d_D_readOn_26 ?_
    refine ev_iload_n d_D_readOn_27 rfl rfl ?_
    obtain ⟨KS, K⟩ := K
    obtain ⟨z8, ez8⟩ : ∃ z : Int64, z = (if a2 < (σ.1 38 0 (a5.toNatClampNeg)) then a3 else (a3 + ((Int32.toInt64 (σ.1 39 0 (a5.toNatClampNeg))) * (σ.2 35 0 ((a2 - (σ.1 38 0 (a5.toNatClampNeg))).toNatClampNeg))))) := ⟨_, rfl⟩
    replace K := K z8 ez8
    have JJ : Ev none d m_D_readOn 57 [some (vR 9 0), none, some (vI a2), some (vJ z8), none, some (vI a5)] [] σ post := by
      refine ev_iinc (v := a5 + (1 : Int32)) (L' := [some (vR 9 0), none, some (vI a2), some (vJ z8), none, some (vI (a5 + (1 : Int32)))]) d_D_readOn_57 rfl (congrArg (a5 + ·) (by decide)) (by decide) rfl ?_
      refine ev_goto (tgt := 11) d_D_readOn_60 rfl ?_
      exact K
    clear K
    refine ev_icmp_gt (tgt := 57) d_D_readOn_28 rfl (fun h9 => ?_) (fun h9 => ?_)
    · replace KS := KS.1 h9
      rw [if_pos h9] at ez8
      subst ez8
      exact JJ
    · replace KS := KS.2 h9
      rw [if_neg h9] at ez8
      obtain ⟨q5, q6, q7⟩ := KS
      refine ev_lload_n d_D_readOn_31 rfl rfl ?_
      refine ev_aload_n d_D_readOn_32 rfl rfl ?_
      refine ev_getR gf_D_25 rfl (by decide) d_D_readOn_33 ?_
      refine ev_iload d_D_readOn_36 rfl ?_
      refine ev_iald rfl (by decide) (by decide) q5 d_D_readOn_38 ?_
      refine ev_i2l d_D_readOn_39 ?_
      refine ev_aload_n d_D_readOn_40 rfl rfl ?_
      refine ev_getR gf_D_11 rfl (by decide) d_D_readOn_41 ?_
      refine ev_iload_n d_D_readOn_44 rfl rfl ?_
      refine ev_aload_n d_D_readOn_45 rfl rfl ?_
      refine ev_getR gf_D_22 rfl (by decide) d_D_readOn_46 ?_
      refine ev_iload d_D_readOn_49 rfl ?_
      refine ev_iald rfl (by decide) (by decide) q6 d_D_readOn_51 ?_
      refine ev_isub d_D_readOn_52 ?_
      refine ev_lald rfl (by decide) (by decide) q7 d_D_readOn_53 ?_
      refine ev_lmul d_D_readOn_54 ?_
      refine ev_ladd d_D_readOn_55 ?_
      refine ev_lstore_n (L' := [some (vR 9 0), none, some (vI a2), some (vJ (a3 + ((Int32.toInt64 (σ.1 39 0 (a5.toNatClampNeg))) * (σ.2 35 0 ((a2 - (σ.1 38 0 (a5.toNatClampNeg))).toNatClampNeg))))), none, some (vI a5)]) d_D_readOn_56 rfl (by decide) rfl ?_
      subst ez8
      exact JJ
set_option maxRecDepth 4000 in
theorem sg_H_drop_0 {d : Nat} {σ : ST} {i : Nat} {post : Option AV → ST → Prop} (hi : i < 4) (K : post none (setI (setI σ 10 i 1 (1 : Int32)) 10 i 3 (0 : Int32))) : Ev none d m_H_drop 0 [some (vR 10 i)] [] σ post := by
  refine ev_aload_n d_H_drop_0 rfl rfl ?_
  refine ev_iconst (v := 1) d_H_drop_1 (by decide) ?_
  refine ev_putZ gp_H_15 rfl hi d_H_drop_2 (by decide) ?_
  refine ev_aload_n d_H_drop_5 rfl rfl ?_
  refine ev_iconst (v := 0) d_H_drop_6 (by decide) ?_
  refine ev_putI gp_H_23 rfl hi d_H_drop_7 ?_
  exact ev_ret (r := none) d_H_drop_10 rfl rfl K
set_option maxRecDepth 4000 in
theorem sg_H_renew_0 {d : Nat} {σ : ST} {i : Nat} {a1 : Int32} {a2 : Int32} {post : Option AV → ST → Prop} (hi : i < 4) (K : Ev none d m_H_renew 17 [some (vR 10 i), none, none, some (vI (0 : Int32))] [] (setI (setI (setI σ 10 i 1 (0 : Int32)) 10 i 2 a1) 10 i 3 a2) post) : Ev none d m_H_renew 0 [some (vR 10 i), some (vI a1), some (vI a2), none] [] σ post := by
  refine ev_aload_n d_H_renew_0 rfl rfl ?_
  refine ev_iconst (v := 0) d_H_renew_1 (by decide) ?_
  refine ev_putZ gp_H_15 rfl hi d_H_renew_2 (by decide) ?_
  refine ev_aload_n d_H_renew_5 rfl rfl ?_
  refine ev_iload_n d_H_renew_6 rfl rfl ?_
  refine ev_putI gp_H_19 rfl hi d_H_renew_7 ?_
  refine ev_aload_n d_H_renew_10 rfl rfl ?_
  refine ev_iload_n d_H_renew_11 rfl rfl ?_
  refine ev_putI gp_H_23 rfl hi d_H_renew_12 ?_
  refine ev_iconst (v := 0) d_H_renew_15 (by decide) ?_
  refine ev_istore_n (L' := [some (vR 10 i), some (vI a1), some (vI a2), some (vI (0 : Int32))]) d_H_renew_16 rfl (by decide) rfl ?_
  exact Ev.wk (lsub_kp (lsub_sk (lsub_sk (lsub_kp (lsub_nil))))) K
set_option maxRecDepth 4000 in
theorem sg_H_renew_17 {d : Nat} {σ : ST} {i : Nat} {a3 : Int32} {post : Option AV → ST → Prop} (hi : i < 4) (K : (((60 : Int32) ≤ a3) → (post none σ)) ∧ (¬ ((60 : Int32) ≤ a3) → ((vp_in a3 60) ∧ (Ev none d m_H_renew 17 [some (vR 10 i), none, none, some (vI (a3 + (1 : Int32)))] [] (setI σ 41 i (a3.toNatClampNeg) (0 : Int32)) post)))) : Ev none d m_H_renew 17 [some (vR 10 i), none, none, some (vI a3)] [] σ post := by
  refine ev_iload_n d_H_renew_17 rfl rfl ?_
  refine ev_bipush (v := 60) d_H_renew_18 (by decide) ?_
  refine ev_icmp_ge (tgt := 36) d_H_renew_20 rfl (fun h1 => ?_) (fun h1 => ?_)
  · replace K := K.1 h1
    exact ev_ret (r := none) d_H_renew_36 rfl rfl K
  · replace K := K.2 h1
    refine ev_aload_n d_H_renew_23 rfl rfl ?_
    refine ev_getO gf_H_9 rfl hi d_H_renew_24 ?_
    refine ev_iload_n d_H_renew_27 rfl rfl ?_
    refine ev_iconst (v := 0) d_H_renew_28 (by decide) ?_
    obtain ⟨q2, K⟩ := K
    refine ev_iast rfl (by decide) hi q2 d_H_renew_29 ?_
    refine ev_iinc (v := a3 + (1 : Int32)) (L' := [some (vR 10 i), none, none, some (vI (a3 + (1 : Int32)))]) d_H_renew_30 rfl (congrArg (a3 + ·) (by decide)) (by decide) rfl ?_
    refine ev_goto (tgt := 17) d_H_renew_33 rfl ?_
    exact K
set_option maxRecDepth 4000 in
theorem sg_P_keep_0 {d : Nat} {σ : ST} {a1 : Int32} {a2 : Int32} {a3 : Int32} {post : Option AV → ST → Prop} (K : (¬ (0 : Int32) < 0) ∧ (¬ (0 : Int32) < 0) ∧ (¬ (8 : Int32) < 0) ∧ ((0 : Int32).toNatClampNeg + (8 : Int32).toNatClampNeg ≤ 8) ∧ ((0 : Int32).toNatClampNeg + (8 : Int32).toNatClampNeg ≤ 8) ∧ (post none (setA (setI (setI (setI σ 5 0 8 a1) 5 0 9 a2) 5 0 10 a3) 24 0 (va_cpy ((setI (setI (setI σ 5 0 8 a1) 5 0 9 a2) 5 0 10 a3).1 23 0) ((setI (setI (setI σ 5 0 8 a1) 5 0 9 a2) 5 0 10 a3).1 24 0) (0 : Int32).toNatClampNeg (0 : Int32).toNatClampNeg (8 : Int32).toNatClampNeg)))) : Ev none (d + 1) m_P_keep 0 [some (vR 5 0), some (vI a1), some (vI a2), some (vI a3)] [] σ post := by
  refine ev_aload_n d_P_keep_0 rfl rfl ?_
  refine ev_iload_n d_P_keep_1 rfl rfl ?_
  refine ev_putI gp_P_34 rfl (by decide) d_P_keep_2 ?_
  refine ev_aload_n d_P_keep_5 rfl rfl ?_
  refine ev_iload_n d_P_keep_6 rfl rfl ?_
  refine ev_putI gp_P_37 rfl (by decide) d_P_keep_7 ?_
  refine ev_aload_n d_P_keep_10 rfl rfl ?_
  refine ev_iload_n d_P_keep_11 rfl rfl ?_
  refine ev_putI gp_P_40 rfl (by decide) d_P_keep_12 ?_
  refine ev_aload_n d_P_keep_15 rfl rfl ?_
  refine ev_getR gf_P_18 rfl (by decide) d_P_keep_16 ?_
  refine ev_iconst (v := 0) d_P_keep_19 (by decide) ?_
  refine ev_aload_n d_P_keep_20 rfl rfl ?_
  refine ev_getR gf_P_21 rfl (by decide) d_P_keep_21 ?_
  refine ev_iconst (v := 0) d_P_keep_24 (by decide) ?_
  refine ev_bipush (v := 8) d_P_keep_25 (by decide) ?_
  obtain ⟨q1, q2, q3, q4, q5, K⟩ := K
  refine ev_copy ml_P_85 rfl (by decide) (by decide) rfl (by decide) (by decide) q1 q2 q3 q4 q5 (Nat.le_of_ble_eq_true rfl) d_P_keep_27 ?_
  exact ev_ret (r := none) d_P_keep_30 rfl rfl K
set_option maxRecDepth 4000 in
theorem sg_T_leastOf_0 {d : Nat} {σ : ST} {a0 : Int32} {post : Option AV → ST → Prop} (K : Ev none (d + 1) m_T_leastOf 2 [some (vI a0), some (vI (0 : Int32))] [] σ post) : Ev none (d + 1) m_T_leastOf 0 [some (vI a0), none] [] σ post := by
  refine ev_iconst (v := 0) d_T_leastOf_0 (by decide) ?_
  refine ev_istore_n (L' := [some (vI a0), some (vI (0 : Int32))]) d_T_leastOf_1 rfl (by decide) rfl ?_
  exact K
set_option maxRecDepth 4000 in
theorem sg_T_leastOf_2 {d : Nat} {σ : ST} {a0 : Int32} {a1 : Int32} {post : Option AV → ST → Prop} (K : ((((5 : Int32) ≤ a1) ∨ (fp_O_holds σ a0 a1)) → (post (some (vI a1)) σ)) ∧ (¬ (((5 : Int32) ≤ a1) ∨ (fp_O_holds σ a0 a1)) → (Ev none (d + 1) m_T_leastOf 2 [some (vI a0), some (vI (a1 + (1 : Int32)))] [] σ post))) : Ev none (d + 1) m_T_leastOf 2 [some (vI a0), some (vI a1)] [] σ post := by
  refine ev_iload_n d_T_leastOf_2 rfl rfl ?_
  refine ev_iconst (v := 5) d_T_leastOf_3 (by decide) ?_
  obtain ⟨w1, e2⟩ : ∃ w : Int32, w = bi (((5 : Int32) ≤ a1) ∨ (fp_O_holds σ a0 a1)) := ⟨_, rfl⟩
  have J1 : w1 = 1 → Ev none (d + 1) m_T_leastOf 21 [some (vI a0), some (vI a1)] [] σ post := by
    intro e21
    replace K := K.1 (bi_1.mp ((e2.symm).trans e21))
    refine ev_iload_n d_T_leastOf_21 rfl rfl ?_
    exact ev_ret (r := some (vI a1)) d_T_leastOf_22 rfl rfl K
  have J0 : w1 = 0 → Ev none (d + 1) m_T_leastOf 15 [some (vI a0), some (vI a1)] [] σ post := by
    intro e20
    replace K := K.2 (bi_0.mp ((e2.symm).trans e20))
    refine ev_iinc (v := a1 + (1 : Int32)) (L' := [some (vI a0), some (vI (a1 + (1 : Int32)))]) d_T_leastOf_15 rfl (congrArg (a1 + ·) (by decide)) (by decide) rfl ?_
    refine ev_goto (tgt := 2) d_T_leastOf_18 rfl ?_
    exact K
  clear K
  refine ev_icmp_ge (tgt := 21) d_T_leastOf_4 rfl (fun h3 => ?_) (fun h3 => ?_)
  · rw [b4t h3] at e2
    exact J1 e2
  · rw [b4f h3] at e2
    refine ev_iload_n d_T_leastOf_7 rfl rfl ?_
    refine ev_iload_n d_T_leastOf_8 rfl rfl ?_
    refine ev_callN (as := [vI a0, vI a1]) (st := []) g_O_holds ml_T_46 d_T_leastOf_9 rfl rfl (Nat.le_of_ble_eq_true rfl) rfl (Nat.le_of_ble_eq_true rfl) ?_
    refine f_O_holds  ?_
    show Ev none (d + 1) m_T_leastOf 12 [some (vI a0), some (vI a1)] [vI (bi (fp_O_holds σ a0 a1))] σ post
    refine ev_ifb_ne (tgt := 21) d_T_leastOf_12 rfl (fun h4 => ?_) (fun h4 => ?_)
    · rw [bi_t h4] at e2
      exact J1 e2
    · rw [bi_f h4] at e2
      exact J0 e2
set_option maxRecDepth 4000 in
theorem sg_D_reduce_0 {d : Nat} {σ : ST} {a1 : Int64} {a3 : Int64} {post : Option AV → ST → Prop} (K : Ev none d m_D_commonDivisor 0 [some (vJ a1), none, some (vJ a3), none, none, none, none, none, none, none, none] [] σ (fun r s1 => ∃ z2 : Int64, r = some (vJ z2) ∧ ((((z2 ≤ (1 : Int64)) → True) ∧ (¬ (z2 ≤ (1 : Int64)) → (¬ z2 = 0))) ∧ (∀ z4 : Int64, z4 = (if z2 ≤ (1 : Int64) then a1 else (a1 / z2)) → ((((z2 ≤ (1 : Int64)) → True) ∧ (¬ (z2 ≤ (1 : Int64)) → (¬ z2 = 0))) ∧ (∀ z6 : Int64, z6 = (if z2 ≤ (1 : Int64) then a3 else (a3 / z2)) → (post none (setJ (setJ s1 9 0 7 z4) 9 0 8 z6)))))))) : Ev none (d + 1) m_D_reduce 0 [some (vR 9 0), some (vJ a1), none, some (vJ a3), none, none, none] [] σ post := by
  refine ev_lload_n d_D_reduce_0 rfl rfl ?_
  refine ev_lload_n d_D_reduce_1 rfl rfl ?_
  refine ev_callS (as := [vJ a1, vJ a3]) (st := []) g_D_commonDivisor ml_D_109 d_D_reduce_2 rfl rfl (Nat.le_of_ble_eq_true rfl) rfl (Nat.le_of_ble_eq_true rfl) ?_
  refine Ev.mono K ?_
  rintro _ s1 ⟨z2, rfl, K⟩
  show Ev none (d + 1) m_D_reduce 5 [some (vR 9 0), some (vJ a1), none, some (vJ a3), none, none, none] [vJ z2] s1 post
  refine ev_lstore (L' := [some (vR 9 0), some (vJ a1), none, some (vJ a3), none, some (vJ z2), none]) d_D_reduce_5 (by decide) rfl ?_
  refine ev_aload_n d_D_reduce_7 rfl rfl ?_
  refine ev_lload d_D_reduce_8 rfl ?_
  refine ev_lconst (v := 1) d_D_reduce_10 (by decide) ?_
  refine ev_lcmp d_D_reduce_11 ?_
  obtain ⟨KS, K⟩ := K
  obtain ⟨z4, ez4⟩ : ∃ z : Int64, z = (if z2 ≤ (1 : Int64) then a1 else (a1 / z2)) := ⟨_, rfl⟩
  replace K := K z4 ez4
  have JJ : Ev none (d + 1) m_D_reduce 23 [some (vR 9 0), none, none, some (vJ a3), none, some (vJ z2), none] [vJ z4, vR 9 0] s1 post := by
    refine ev_putJ gp_D_32 rfl (by decide) d_D_reduce_23 ?_
    refine ev_aload_n d_D_reduce_26 rfl rfl ?_
    refine ev_lload d_D_reduce_27 rfl ?_
    refine ev_lconst (v := 1) d_D_reduce_29 (by decide) ?_
    refine ev_lcmp d_D_reduce_30 ?_
    obtain ⟨KS, K⟩ := K
    obtain ⟨z6, ez6⟩ : ∃ z : Int64, z = (if z2 ≤ (1 : Int64) then a3 else (a3 / z2)) := ⟨_, rfl⟩
    replace K := K z6 ez6
    have JJ : Ev none (d + 1) m_D_reduce 42 [none, none, none, none, none, none, none] [vJ z6, vR 9 0] (setJ s1 9 0 7 z4) post := by
      refine ev_putJ gp_D_36 rfl (by decide) d_D_reduce_42 ?_
      exact ev_ret (r := none) d_D_reduce_45 rfl rfl K
    clear K
    refine ev_ifc_le (tgt := 41) d_D_reduce_31 rfl (fun h7 => ?_) (fun h7 => ?_)
    · replace KS := KS.1 h7
      rw [if_pos h7] at ez6
      refine ev_lload_n d_D_reduce_41 rfl rfl ?_
      subst ez6
      exact Ev.wk (lsub_sk (lsub_sk (lsub_sk (lsub_sk (lsub_sk (lsub_sk (lsub_sk (lsub_nil)))))))) JJ
    · replace KS := KS.2 h7
      rw [if_neg h7] at ez6
      have q5 := KS
      refine ev_lload_n d_D_reduce_34 rfl rfl ?_
      refine ev_lload d_D_reduce_35 rfl ?_
      refine ev_ldiv d_D_reduce_37 q5 ?_
      refine ev_goto (tgt := 42) d_D_reduce_38 rfl ?_
      subst ez6
      exact Ev.wk (lsub_sk (lsub_sk (lsub_sk (lsub_sk (lsub_sk (lsub_sk (lsub_sk (lsub_nil)))))))) JJ
  clear K
  refine ev_ifc_le (tgt := 22) d_D_reduce_12 rfl (fun h8 => ?_) (fun h8 => ?_)
  · replace KS := KS.1 h8
    rw [if_pos h8] at ez4
    refine ev_lload_n d_D_reduce_22 rfl rfl ?_
    subst ez4
    exact Ev.wk (lsub_kp (lsub_sk (lsub_sk (lsub_kp (lsub_sk (lsub_kp (lsub_sk (lsub_nil)))))))) JJ
  · replace KS := KS.2 h8
    rw [if_neg h8] at ez4
    have q3 := KS
    refine ev_lload_n d_D_reduce_15 rfl rfl ?_
    refine ev_lload d_D_reduce_16 rfl ?_
    refine ev_ldiv d_D_reduce_18 q3 ?_
    refine ev_goto (tgt := 23) d_D_reduce_19 rfl ?_
    subst ez4
    exact Ev.wk (lsub_kp (lsub_sk (lsub_sk (lsub_kp (lsub_sk (lsub_kp (lsub_sk (lsub_nil)))))))) JJ
set_option maxRecDepth 4000 in
theorem sg_H_put_0 {d : Nat} {σ : ST} {i : Nat} {a1 : Int32} {a2 : Int32} {post : Option AV → ST → Prop} (hi : i < 4) (K : (vp_in a1 60) ∧ (post none (setI σ 41 i (a1.toNatClampNeg) (fn_H_narrow σ i a2)))) : Ev none (d + 1) m_H_put 0 [some (vR 10 i), some (vI a1), some (vI a2)] [] σ post := by
  refine ev_aload_n d_H_put_0 rfl rfl ?_
  refine ev_getO gf_H_9 rfl hi d_H_put_1 ?_
  refine ev_iload_n d_H_put_4 rfl rfl ?_
  refine ev_aload_n d_H_put_5 rfl rfl ?_
  refine ev_iload_n d_H_put_6 rfl rfl ?_
  refine ev_callV (as := [vI a2]) (st := [vI a1, vR 41 i]) (k := 10) (i := i) g_H_narrow ml_H_26 rfl rfl (by decide) hi d_H_put_7 rfl rfl (Nat.le_of_ble_eq_true rfl) rfl (Nat.le_of_ble_eq_true rfl) ?_
  refine f_H_narrow hi ?_
  show Ev none (d + 1) m_H_put 10 [some (vR 10 i), some (vI a1), some (vI a2)] [vI (fn_H_narrow σ i a2), vI a1, vR 41 i] σ post
  obtain ⟨q1, K⟩ := K
  refine ev_iast rfl (by decide) hi q1 d_H_put_10 ?_
  exact ev_ret (r := none) d_H_put_11 rfl rfl K
set_option maxRecDepth 4000 in
theorem sg_H_takeFrom_0 {d : Nat} {σ : ST} {i : Nat} {i1 : Nat} {a2 : Int32} {a3 : Int32} {a4 : Int32} {post : Option AV → ST → Prop} (hi : i < 4) (hi1 : i1 < 4) (K : (¬ a2 < 0) ∧ (¬ a3 < 0) ∧ (¬ a4 < 0) ∧ (a2.toNatClampNeg + a4.toNatClampNeg ≤ 60) ∧ (a3.toNatClampNeg + a4.toNatClampNeg ≤ 60) ∧ (post none (setA σ 41 i (va_cpy (σ.1 41 i1) (σ.1 41 i) a2.toNatClampNeg a3.toNatClampNeg a4.toNatClampNeg)))) : Ev none (d + 1) m_H_takeFrom 0 [some (vR 10 i), some (vR 10 i1), some (vI a2), some (vI a3), some (vI a4)] [] σ post := by
  refine ev_aload_n d_H_takeFrom_0 rfl rfl ?_
  refine ev_getO gf_H_9 rfl hi1 d_H_takeFrom_1 ?_
  refine ev_iload_n d_H_takeFrom_4 rfl rfl ?_
  refine ev_aload_n d_H_takeFrom_5 rfl rfl ?_
  refine ev_getO gf_H_9 rfl hi d_H_takeFrom_6 ?_
  refine ev_iload_n d_H_takeFrom_9 rfl rfl ?_
  refine ev_iload d_H_takeFrom_10 rfl ?_
  obtain ⟨q1, q2, q3, q4, q5, K⟩ := K
  refine ev_copy ml_H_30 rfl (by decide) hi1 rfl (by decide) hi q1 q2 q3 q4 q5 (Nat.le_of_ble_eq_true rfl) d_H_takeFrom_12 ?_
  exact ev_ret (r := none) d_H_takeFrom_15 rfl rfl K
set_option maxRecDepth 4000 in
theorem sg_B_findFault_0 {d : Nat} {σ : ST}  {post : Option AV → ST → Prop} (K : Ev none (d + 2) m_B_findFault 2 [some (vR 1 0), some (vI (0 : Int32))] [] σ post) : Ev none (d + 2) m_B_findFault 0 [some (vR 1 0), none] [] σ post := by
  refine ev_iconst (v := 0) d_B_findFault_0 (by decide) ?_
  refine ev_istore_n (L' := [some (vR 1 0), some (vI (0 : Int32))]) d_B_findFault_1 rfl (by decide) rfl ?_
  exact K
set_option maxRecDepth 4000 in
theorem sg_B_findFault_2 {d : Nat} {σ : ST} {a1 : Int32} {post : Option AV → ST → Prop} (K : (((σ.1 1 0 3) ≤ a1) → (((¬ ((σ.1 1 0 3) = 0) ∧ (¬ ((irm (σ.1 1 0 3) (4 : Int32)) = (3 : Int32)))) → (post (some (vI (σ.1 1 0 3))) σ)) ∧ (¬ (¬ ((σ.1 1 0 3) = 0) ∧ (¬ ((irm (σ.1 1 0 3) (4 : Int32)) = (3 : Int32)))) → (post (some (vI (-1 : Int32))) σ)))) ∧ (¬ ((σ.1 1 0 3) ≤ a1) → ((((32 : Int32) ≤ a1) → (post (some (vI a1)) σ)) ∧ (¬ ((32 : Int32) ≤ a1) → ((fs_B_goesOn σ a1) ∧ (((fp_B_goesOn σ a1) → (((((irm a1 (4 : Int32)) = (2 : Int32)) → ((fs_B_figureAt σ (a1 - (1 : Int32))) ∧ ((((fn_B_figureAt σ (a1 - (1 : Int32))) = 0) → (fs_B_figureAt σ a1)) ∧ (¬ ((fn_B_figureAt σ (a1 - (1 : Int32))) = 0) → True)))) ∧ (¬ ((irm a1 (4 : Int32)) = (2 : Int32)) → True)) ∧ ((¬ ((irm a1 (4 : Int32)) = (2 : Int32)) ∨ (¬ ((fn_B_figureAt σ (a1 - (1 : Int32))) = 0) ∨ (¬ ((fn_B_figureAt σ a1) = 0)))) → (Ev none (d + 2) m_B_findFault 2 [some (vR 1 0), some (vI (a1 + (1 : Int32)))] [] σ post)) ∧ (¬ (¬ ((irm a1 (4 : Int32)) = (2 : Int32)) ∨ (¬ ((fn_B_figureAt σ (a1 - (1 : Int32))) = 0) ∨ (¬ ((fn_B_figureAt σ a1) = 0)))) → (post (some (vI (a1 - (1 : Int32)))) σ)))) ∧ (¬ (fp_B_goesOn σ a1) → (post (some (vI a1)) σ)))))))) : Ev none (d + 2) m_B_findFault 2 [some (vR 1 0), some (vI a1)] [] σ post := by
  refine ev_iload_n d_B_findFault_2 rfl rfl ?_
  refine ev_aload_n d_B_findFault_3 rfl rfl ?_
  refine ev_getI gf_B_21 rfl (by decide) d_B_findFault_4 ?_
  refine ev_icmp_ge (tgt := 61) d_B_findFault_7 rfl (fun h1 => ?_) (fun h1 => ?_)
  · replace K := K.1 h1
    refine ev_aload_n d_B_findFault_61 rfl rfl ?_
    refine ev_getI gf_B_21 rfl (by decide) d_B_findFault_62 ?_
    obtain ⟨w2, e3⟩ : ∃ w : Int32, w = bi (¬ ((σ.1 1 0 3) = 0) ∧ (¬ ((irm (σ.1 1 0 3) (4 : Int32)) = (3 : Int32)))) := ⟨_, rfl⟩
    have J1 : w2 = 1 → Ev none (d + 2) m_B_findFault 82 [some (vR 1 0), some (vI a1)] [] σ post := by
      intro e31
      replace K := K.1 (bi_1.mp ((e3.symm).trans e31))
      refine ev_aload_n d_B_findFault_82 rfl rfl ?_
      refine ev_getI gf_B_21 rfl (by decide) d_B_findFault_83 ?_
      exact ev_ret (r := some (vI (σ.1 1 0 3))) d_B_findFault_86 rfl rfl K
    have J0 : w2 = 0 → Ev none (d + 2) m_B_findFault 78 [some (vR 1 0), some (vI a1)] [] σ post := by
      intro e30
      replace K := K.2 (bi_0.mp ((e3.symm).trans e30))
      refine ev_iconst (v := -1) d_B_findFault_78 (by decide) ?_
      refine ev_goto (tgt := 86) d_B_findFault_79 rfl ?_
      exact ev_ret (r := some (vI (-1 : Int32))) d_B_findFault_86 rfl rfl K
    clear K
    refine ev_if_eq (tgt := 78) d_B_findFault_65 rfl (fun h4 => ?_) (fun h4 => ?_)
    · rw [b5t h4] at e3
      exact J0 e3
    · rw [b5f h4] at e3
      refine ev_aload_n d_B_findFault_68 rfl rfl ?_
      refine ev_getI gf_B_21 rfl (by decide) d_B_findFault_69 ?_
      refine ev_iconst (v := 4) d_B_findFault_72 (by decide) ?_
      refine ev_irem d_B_findFault_73 (by decide) ?_
      refine ev_iconst (v := 3) d_B_findFault_74 (by decide) ?_
      refine ev_icmp_ne (tgt := 82) d_B_findFault_75 rfl (fun h5 => ?_) (fun h5 => ?_)
      · rw [bi_t h5] at e3
        exact J1 e3
      · rw [bi_f (not_not_intro h5)] at e3
        exact J0 e3
  · replace K := K.2 h1
    refine ev_iload_n d_B_findFault_10 rfl rfl ?_
    refine ev_bipush (v := 32) d_B_findFault_11 (by decide) ?_
    refine ev_icmp_ge (tgt := 24) d_B_findFault_13 rfl (fun h6 => ?_) (fun h6 => ?_)
    · replace K := K.1 h6
      refine ev_iload_n d_B_findFault_24 rfl rfl ?_
      exact ev_ret (r := some (vI a1)) d_B_findFault_25 rfl rfl K
    · replace K := K.2 h6
      refine ev_aload_n d_B_findFault_16 rfl rfl ?_
      refine ev_iload_n d_B_findFault_17 rfl rfl ?_
      obtain ⟨q7, K⟩ := K
      refine ev_callV (as := [vI a1]) (st := []) (k := 1) (i := 0) g_B_goesOn ml_B_45 rfl rfl (by decide) (by decide) d_B_findFault_18 rfl rfl (Nat.le_of_ble_eq_true rfl) rfl (Nat.le_of_ble_eq_true rfl) ?_
      refine f_B_goesOn q7 ?_
      show Ev none (d + 2) m_B_findFault 21 [some (vR 1 0), some (vI a1)] [vI (bi (fp_B_goesOn σ a1))] σ post
      refine ev_ifb_ne (tgt := 26) d_B_findFault_21 rfl (fun h8 => ?_) (fun h8 => ?_)
      · replace K := K.1 h8
        refine ev_iload_n d_B_findFault_26 rfl rfl ?_
        refine ev_iconst (v := 4) d_B_findFault_27 (by decide) ?_
        refine ev_irem d_B_findFault_28 (by decide) ?_
        refine ev_iconst (v := 2) d_B_findFault_29 (by decide) ?_
        obtain ⟨KS, K⟩ := K
        obtain ⟨w11, e12⟩ : ∃ w : Int32, w = bi (¬ ((irm a1 (4 : Int32)) = (2 : Int32)) ∨ (¬ ((fn_B_figureAt σ (a1 - (1 : Int32))) = 0) ∨ (¬ ((fn_B_figureAt σ a1) = 0)))) := ⟨_, rfl⟩
        have J1 : w11 = 1 → Ev none (d + 2) m_B_findFault 55 [some (vR 1 0), some (vI a1)] [] σ post := by
          intro e121
          replace K := K.1 (bi_1.mp ((e12.symm).trans e121))
          refine ev_iinc (v := a1 + (1 : Int32)) (L' := [some (vR 1 0), some (vI (a1 + (1 : Int32)))]) d_B_findFault_55 rfl (congrArg (a1 + ·) (by decide)) (by decide) rfl ?_
          refine ev_goto (tgt := 2) d_B_findFault_58 rfl ?_
          exact K
        have J0 : w11 = 0 → Ev none (d + 2) m_B_findFault 51 [some (vR 1 0), some (vI a1)] [] σ post := by
          intro e120
          replace K := K.2 (bi_0.mp ((e12.symm).trans e120))
          refine ev_iload_n d_B_findFault_51 rfl rfl ?_
          refine ev_iconst (v := 1) d_B_findFault_52 (by decide) ?_
          refine ev_isub d_B_findFault_53 ?_
          exact ev_ret (r := some (vI (a1 - (1 : Int32)))) d_B_findFault_54 rfl rfl K
        clear K
        refine ev_icmp_ne (tgt := 55) d_B_findFault_30 rfl (fun h13 => ?_) (fun h13 => ?_)
        · replace KS := KS.2 h13
          rw [b6f h13] at e12
          exact J1 e12
        · replace KS := KS.1 h13
          rw [b6t h13] at e12
          obtain ⟨q9, KS⟩ := KS
          refine ev_aload_n d_B_findFault_33 rfl rfl ?_
          refine ev_iload_n d_B_findFault_34 rfl rfl ?_
          refine ev_iconst (v := 1) d_B_findFault_35 (by decide) ?_
          refine ev_isub d_B_findFault_36 ?_
          refine ev_callV (as := [vI (a1 - (1 : Int32))]) (st := []) (k := 1) (i := 0) g_B_figureAt ml_B_42 rfl rfl (by decide) (by decide) d_B_findFault_37 rfl rfl (Nat.le_of_ble_eq_true rfl) rfl (Nat.le_of_ble_eq_true rfl) ?_
          refine f_B_figureAt q9 ?_
          show Ev none (d + 2) m_B_findFault 40 [some (vR 1 0), some (vI a1)] [vI (fn_B_figureAt σ (a1 - (1 : Int32)))] σ post
          refine ev_if_ne (tgt := 55) d_B_findFault_40 rfl (fun h14 => ?_) (fun h14 => ?_)
          · replace KS := KS.2 h14
            rw [b6f h14] at e12
            exact J1 e12
          · replace KS := KS.1 h14
            rw [b6t h14] at e12
            have q10 := KS
            refine ev_aload_n d_B_findFault_43 rfl rfl ?_
            refine ev_iload_n d_B_findFault_44 rfl rfl ?_
            refine ev_callV (as := [vI a1]) (st := []) (k := 1) (i := 0) g_B_figureAt ml_B_42 rfl rfl (by decide) (by decide) d_B_findFault_45 rfl rfl (Nat.le_of_ble_eq_true rfl) rfl (Nat.le_of_ble_eq_true rfl) ?_
            refine f_B_figureAt q10 ?_
            show Ev none (d + 2) m_B_findFault 48 [some (vR 1 0), some (vI a1)] [vI (fn_B_figureAt σ a1)] σ post
            refine ev_if_ne (tgt := 55) d_B_findFault_48 rfl (fun h15 => ?_) (fun h15 => ?_)
            · rw [bi_t h15] at e12
              exact J1 e12
            · rw [bi_f (not_not_intro h15)] at e12
              exact J0 e12
      · replace K := K.2 h8
        refine ev_iload_n d_B_findFault_24 rfl rfl ?_
        exact ev_ret (r := some (vI a1)) d_B_findFault_25 rfl rfl K
set_option maxRecDepth 4000 in
theorem sg_C_countLikes_0 {d : Nat} {σ : ST}  {post : Option AV → ST → Prop} (K : Ev none (d + 2) m_C_countLikes 4 [some (vR 2 0), some (vI (0 : Int32)), some (vI (0 : Int32)), none] [] σ post) : Ev none (d + 2) m_C_countLikes 0 [some (vR 2 0), none, none, none] [] σ post := by
  refine ev_iconst (v := 0) d_C_countLikes_0 (by decide) ?_
  refine ev_istore_n (L' := [some (vR 2 0), some (vI (0 : Int32)), none, none]) d_C_countLikes_1 rfl (by decide) rfl ?_
  refine ev_iconst (v := 0) d_C_countLikes_2 (by decide) ?_
  refine ev_istore_n (L' := [some (vR 2 0), some (vI (0 : Int32)), some (vI (0 : Int32)), none]) d_C_countLikes_3 rfl (by decide) rfl ?_
  exact K
set_option maxRecDepth 4000 in
theorem sg_C_countLikes_4 {d : Nat} {σ : ST} {a1 : Int32} {a2 : Int32} {post : Option AV → ST → Prop} (K : (((6 : Int32) ≤ a2) → (post (some (vI a1)) σ)) ∧ (¬ ((6 : Int32) ≤ a2) → (Ev none (d + 2) m_C_countLikes 12 [some (vR 2 0), some (vI a1), some (vI a2), some (vI (0 : Int32))] [] σ post))) : Ev none (d + 2) m_C_countLikes 4 [some (vR 2 0), some (vI a1), some (vI a2), none] [] σ post := by
  refine ev_iload_n d_C_countLikes_4 rfl rfl ?_
  refine ev_bipush (v := 6) d_C_countLikes_5 (by decide) ?_
  refine ev_icmp_ge (tgt := 53) d_C_countLikes_7 rfl (fun h1 => ?_) (fun h1 => ?_)
  · replace K := K.1 h1
    refine ev_iload_n d_C_countLikes_53 rfl rfl ?_
    exact ev_ret (r := some (vI a1)) d_C_countLikes_54 rfl rfl K
  · replace K := K.2 h1
    refine ev_iconst (v := 0) d_C_countLikes_10 (by decide) ?_
    refine ev_istore_n (L' := [some (vR 2 0), some (vI a1), some (vI a2), some (vI (0 : Int32))]) d_C_countLikes_11 rfl (by decide) rfl ?_
    exact K
set_option maxRecDepth 4000 in
theorem sg_C_countLikes_12 {d : Nat} {σ : ST} {a1 : Int32} {a2 : Int32} {a3 : Int32} {post : Option AV → ST → Prop} (K : (((fn_C_chapters σ) ≤ a3) → (Ev none (d + 2) m_C_countLikes 4 [some (vR 2 0), some (vI a1), some (vI (a2 + (1 : Int32))), none] [] σ post)) ∧ (¬ ((fn_C_chapters σ) ≤ a3) → ((vp_in a2 6) ∧ ((fs_R_likes σ (a2.toNatClampNeg) a3) ∧ (∀ z8 : Int32, z8 = (bi (¬ ((fn_R_likes σ (a2.toNatClampNeg) a3) = 0))) → (Ev none (d + 2) m_C_countLikes 12 [some (vR 2 0), some (vI (a1 + z8)), some (vI a2), some (vI (a3 + (1 : Int32)))] [] σ post)))))) : Ev none (d + 2) m_C_countLikes 12 [some (vR 2 0), some (vI a1), some (vI a2), some (vI a3)] [] σ post := by
  refine ev_iload_n d_C_countLikes_12 rfl rfl ?_
  refine ev_aload_n d_C_countLikes_13 rfl rfl ?_
  refine ev_callV (as := []) (st := [vI a3]) (k := 2) (i := 0) g_C_chapters ml_C_39 rfl rfl (by decide) (by decide) d_C_countLikes_14 rfl rfl (Nat.le_of_ble_eq_true rfl) rfl (Nat.le_of_ble_eq_true rfl) ?_
  refine f_C_chapters  ?_
  show Ev none (d + 2) m_C_countLikes 17 [some (vR 2 0), some (vI a1), some (vI a2), some (vI a3)] [vI (fn_C_chapters σ), vI a3] σ post
  refine ev_icmp_ge (tgt := 47) d_C_countLikes_17 rfl (fun h4 => ?_) (fun h4 => ?_)
  · replace K := K.1 h4
    refine ev_iinc (v := a2 + (1 : Int32)) (L' := [some (vR 2 0), some (vI a1), some (vI (a2 + (1 : Int32))), some (vI a3)]) d_C_countLikes_47 rfl (congrArg (a2 + ·) (by decide)) (by decide) rfl ?_
    refine ev_goto (tgt := 4) d_C_countLikes_50 rfl ?_
    exact Ev.wk (lsub_kp (lsub_kp (lsub_kp (lsub_sk (lsub_nil))))) K
  · replace K := K.2 h4
    refine ev_iload_n d_C_countLikes_20 rfl rfl ?_
    refine ev_aload_n d_C_countLikes_21 rfl rfl ?_
    refine ev_getR gf_C_11 rfl (by decide) d_C_countLikes_22 ?_
    refine ev_iload_n d_C_countLikes_25 rfl rfl ?_
    obtain ⟨q5, K⟩ := K
    refine ev_aald3 rfl (by decide) (by decide) q5 d_C_countLikes_26 ?_
    have b6 := ix_lt q5
    refine ev_iload_n d_C_countLikes_27 rfl rfl ?_
    obtain ⟨q7, K⟩ := K
    refine ev_callV (as := [vI a3]) (st := [vI a1]) (k := 3) (i := (a2.toNatClampNeg)) g_R_likes ml_C_40 rfl rfl (by decide) b6 d_C_countLikes_28 rfl rfl (Nat.le_of_ble_eq_true rfl) rfl (Nat.le_of_ble_eq_true rfl) ?_
    refine f_R_likes b6 q7 ?_
    show Ev none (d + 2) m_C_countLikes 31 [some (vR 2 0), some (vI a1), some (vI a2), some (vI a3)] [vI (fn_R_likes σ (a2.toNatClampNeg) a3), vI a1] σ post
    obtain ⟨z8, ez8⟩ : ∃ z : Int32, z = (bi (¬ ((fn_R_likes σ (a2.toNatClampNeg) a3) = 0))) := ⟨_, rfl⟩
    replace K := K z8 ez8
    have JJ : Ev none (d + 2) m_C_countLikes 39 [some (vR 2 0), none, some (vI a2), some (vI a3)] [vI z8, vI a1] σ post := by
      refine ev_iadd d_C_countLikes_39 ?_
      refine ev_istore_n (L' := [some (vR 2 0), some (vI (a1 + z8)), some (vI a2), some (vI a3)]) d_C_countLikes_40 rfl (by decide) rfl ?_
      refine ev_iinc (v := a3 + (1 : Int32)) (L' := [some (vR 2 0), some (vI (a1 + z8)), some (vI a2), some (vI (a3 + (1 : Int32)))]) d_C_countLikes_41 rfl (congrArg (a3 + ·) (by decide)) (by decide) rfl ?_
      refine ev_goto (tgt := 12) d_C_countLikes_44 rfl ?_
      exact K
    clear K
    refine ev_if_eq (tgt := 38) d_C_countLikes_31 rfl (fun h9 => ?_) (fun h9 => ?_)
    · rw [bi_f (not_not_intro h9)] at ez8
      refine ev_iconst (v := 0) d_C_countLikes_38 (by decide) ?_
      subst ez8
      exact Ev.wk (lsub_kp (lsub_sk (lsub_kp (lsub_kp (lsub_nil))))) JJ
    · rw [bi_t h9] at ez8
      refine ev_iconst (v := 1) d_C_countLikes_34 (by decide) ?_
      refine ev_goto (tgt := 39) d_C_countLikes_35 rfl ?_
      subst ez8
      exact Ev.wk (lsub_kp (lsub_sk (lsub_kp (lsub_kp (lsub_nil))))) JJ
set_option maxRecDepth 4000 in
theorem sg_C_countSkipped_0 {d : Nat} {σ : ST}  {post : Option AV → ST → Prop} (K : Ev none (d + 2) m_C_countSkipped 4 [some (vR 2 0), some (vI (0 : Int32)), some (vI (0 : Int32))] [] σ post) : Ev none (d + 2) m_C_countSkipped 0 [some (vR 2 0), none, none] [] σ post := by
  refine ev_iconst (v := 0) d_C_countSkipped_0 (by decide) ?_
  refine ev_istore_n (L' := [some (vR 2 0), some (vI (0 : Int32)), none]) d_C_countSkipped_1 rfl (by decide) rfl ?_
  refine ev_iconst (v := 0) d_C_countSkipped_2 (by decide) ?_
  refine ev_istore_n (L' := [some (vR 2 0), some (vI (0 : Int32)), some (vI (0 : Int32))]) d_C_countSkipped_3 rfl (by decide) rfl ?_
  exact K
set_option maxRecDepth 4000 in
theorem sg_C_countSkipped_4 {d : Nat} {σ : ST} {a1 : Int32} {a2 : Int32} {post : Option AV → ST → Prop} (K : (((fn_C_chapters σ) ≤ a2) → (post (some (vI a1)) σ)) ∧ (¬ ((fn_C_chapters σ) ≤ a2) → ((vp_in a2 8) ∧ (∀ z3 : Int32, z3 = (bi (¬ ((σ.1 16 0 (a2.toNatClampNeg)) = 0))) → (Ev none (d + 2) m_C_countSkipped 4 [some (vR 2 0), some (vI (a1 + z3)), some (vI (a2 + (1 : Int32)))] [] σ post))))) : Ev none (d + 2) m_C_countSkipped 4 [some (vR 2 0), some (vI a1), some (vI a2)] [] σ post := by
  refine ev_iload_n d_C_countSkipped_4 rfl rfl ?_
  refine ev_aload_n d_C_countSkipped_5 rfl rfl ?_
  refine ev_callV (as := []) (st := [vI a2]) (k := 2) (i := 0) g_C_chapters ml_C_39 rfl rfl (by decide) (by decide) d_C_countSkipped_6 rfl rfl (Nat.le_of_ble_eq_true rfl) rfl (Nat.le_of_ble_eq_true rfl) ?_
  refine f_C_chapters  ?_
  show Ev none (d + 2) m_C_countSkipped 9 [some (vR 2 0), some (vI a1), some (vI a2)] [vI (fn_C_chapters σ), vI a2] σ post
  refine ev_icmp_ge (tgt := 35) d_C_countSkipped_9 rfl (fun h1 => ?_) (fun h1 => ?_)
  · replace K := K.1 h1
    refine ev_iload_n d_C_countSkipped_35 rfl rfl ?_
    exact ev_ret (r := some (vI a1)) d_C_countSkipped_36 rfl rfl K
  · replace K := K.2 h1
    refine ev_iload_n d_C_countSkipped_12 rfl rfl ?_
    refine ev_aload_n d_C_countSkipped_13 rfl rfl ?_
    refine ev_getR gf_C_17 rfl (by decide) d_C_countSkipped_14 ?_
    refine ev_iload_n d_C_countSkipped_17 rfl rfl ?_
    obtain ⟨q2, K⟩ := K
    refine ev_zald rfl (by decide) (by decide) q2 d_C_countSkipped_18 ?_
    obtain ⟨z3, ez3⟩ : ∃ z : Int32, z = (bi (¬ ((σ.1 16 0 (a2.toNatClampNeg)) = 0))) := ⟨_, rfl⟩
    replace K := K z3 ez3
    have JJ : Ev none (d + 2) m_C_countSkipped 27 [some (vR 2 0), none, some (vI a2)] [vI z3, vI a1] σ post := by
      refine ev_iadd d_C_countSkipped_27 ?_
      refine ev_istore_n (L' := [some (vR 2 0), some (vI (a1 + z3)), some (vI a2)]) d_C_countSkipped_28 rfl (by decide) rfl ?_
      refine ev_iinc (v := a2 + (1 : Int32)) (L' := [some (vR 2 0), some (vI (a1 + z3)), some (vI (a2 + (1 : Int32)))]) d_C_countSkipped_29 rfl (congrArg (a2 + ·) (by decide)) (by decide) rfl ?_
      refine ev_goto (tgt := 4) d_C_countSkipped_32 rfl ?_
      exact K
    clear K
    refine ev_if_eq (tgt := 26) d_C_countSkipped_19 rfl (fun h4 => ?_) (fun h4 => ?_)
    · rw [bi_f (not_not_intro h4)] at ez3
      refine ev_iconst (v := 0) d_C_countSkipped_26 (by decide) ?_
      subst ez3
      exact Ev.wk (lsub_kp (lsub_sk (lsub_kp (lsub_nil)))) JJ
    · rw [bi_t h4] at ez3
      refine ev_iconst (v := 1) d_C_countSkipped_22 (by decide) ?_
      refine ev_goto (tgt := 27) d_C_countSkipped_23 rfl ?_
      subst ez3
      exact Ev.wk (lsub_kp (lsub_sk (lsub_kp (lsub_nil)))) JJ
set_option maxRecDepth 4000 in
theorem sg_C_together_0 {d : Nat} {σ : ST} {a1 : Int32} {a2 : Int32} {post : Option AV → ST → Prop} (K : (fs_B_kindOf σ a2) ∧ (Ev none (d + 2) m_C_together 15 [some (vR 2 0), some (vI a1), some (vI a2), some (vI (fn_B_kindOf σ a2)), some (vI (0 : Int32)), some (vI (0 : Int32))] [] σ post)) : Ev none (d + 2) m_C_together 0 [some (vR 2 0), some (vI a1), some (vI a2), none, none, none] [] σ post := by
  refine ev_aload_n d_C_together_0 rfl rfl ?_
  refine ev_getR gf_C_21 rfl (by decide) d_C_together_1 ?_
  refine ev_iload_n d_C_together_4 rfl rfl ?_
  obtain ⟨q1, K⟩ := K
  refine ev_callV (as := [vI a2]) (st := []) (k := 1) (i := 0) g_B_kindOf ml_C_32 rfl rfl (by decide) (by decide) d_C_together_5 rfl rfl (Nat.le_of_ble_eq_true rfl) rfl (Nat.le_of_ble_eq_true rfl) ?_
  refine f_B_kindOf q1 ?_
  show Ev none (d + 2) m_C_together 8 [some (vR 2 0), some (vI a1), some (vI a2), none, none, none] [vI (fn_B_kindOf σ a2)] σ post
  refine ev_istore_n (L' := [some (vR 2 0), some (vI a1), some (vI a2), some (vI (fn_B_kindOf σ a2)), none, none]) d_C_together_8 rfl (by decide) rfl ?_
  refine ev_iconst (v := 0) d_C_together_9 (by decide) ?_
  refine ev_istore (L' := [some (vR 2 0), some (vI a1), some (vI a2), some (vI (fn_B_kindOf σ a2)), some (vI (0 : Int32)), none]) d_C_together_10 (by decide) rfl ?_
  refine ev_iconst (v := 0) d_C_together_12 (by decide) ?_
  refine ev_istore (L' := [some (vR 2 0), some (vI a1), some (vI a2), some (vI (fn_B_kindOf σ a2)), some (vI (0 : Int32)), some (vI (0 : Int32))]) d_C_together_13 (by decide) rfl ?_
  exact K
set_option maxRecDepth 4000 in
theorem sg_C_together_15 {d : Nat} {σ : ST} {a1 : Int32} {a2 : Int32} {a3 : Int32} {a4 : Int32} {a5 : Int32} {post : Option AV → ST → Prop} (K : (((6 : Int32) ≤ a5) → (post (some (vI a4)) σ)) ∧ (¬ ((6 : Int32) ≤ a5) → ((((fp_O_holds σ a1 a5) → ((vp_in a5 6) ∧ (fs_R_speedFor σ (a5.toNatClampNeg) a3) ∧ (fs_C_minutesAt σ a5 a2 (fn_R_speedFor σ (a5.toNatClampNeg) a3)))) ∧ (¬ (fp_O_holds σ a1 a5) → True)) ∧ (∀ z6 : Int32, z6 = (if fp_O_holds σ a1 a5 then (imax a4 (fn_C_minutesAt σ a5 a2 (fn_R_speedFor σ (a5.toNatClampNeg) a3))) else a4) → (Ev none (d + 2) m_C_together 15 [some (vR 2 0), some (vI a1), some (vI a2), some (vI a3), some (vI z6), some (vI (a5 + (1 : Int32)))] [] σ post))))) : Ev none (d + 2) m_C_together 15 [some (vR 2 0), some (vI a1), some (vI a2), some (vI a3), some (vI a4), some (vI a5)] [] σ post := by
  refine ev_iload d_C_together_15 rfl ?_
  refine ev_bipush (v := 6) d_C_together_17 (by decide) ?_
  refine ev_icmp_ge (tgt := 62) d_C_together_19 rfl (fun h1 => ?_) (fun h1 => ?_)
  · replace K := K.1 h1
    refine ev_iload d_C_together_62 rfl ?_
    exact ev_ret (r := some (vI a4)) d_C_together_64 rfl rfl K
  · replace K := K.2 h1
    refine ev_iload_n d_C_together_22 rfl rfl ?_
    refine ev_iload d_C_together_23 rfl ?_
    refine ev_callN (as := [vI a1, vI a5]) (st := []) g_O_holds ml_C_51 d_C_together_25 rfl rfl (Nat.le_of_ble_eq_true rfl) rfl (Nat.le_of_ble_eq_true rfl) ?_
    refine f_O_holds  ?_
    show Ev none (d + 2) m_C_together 28 [some (vR 2 0), some (vI a1), some (vI a2), some (vI a3), some (vI a4), some (vI a5)] [vI (bi (fp_O_holds σ a1 a5))] σ post
    obtain ⟨KS, K⟩ := K
    obtain ⟨z6, ez6⟩ : ∃ z : Int32, z = (if fp_O_holds σ a1 a5 then (imax a4 (fn_C_minutesAt σ a5 a2 (fn_R_speedFor σ (a5.toNatClampNeg) a3))) else a4) := ⟨_, rfl⟩
    replace K := K z6 ez6
    have JJ : Ev none (d + 2) m_C_together 56 [some (vR 2 0), some (vI a1), some (vI a2), some (vI a3), some (vI z6), some (vI a5)] [] σ post := by
      refine ev_iinc (v := a5 + (1 : Int32)) (L' := [some (vR 2 0), some (vI a1), some (vI a2), some (vI a3), some (vI z6), some (vI (a5 + (1 : Int32)))]) d_C_together_56 rfl (congrArg (a5 + ·) (by decide)) (by decide) rfl ?_
      refine ev_goto (tgt := 15) d_C_together_59 rfl ?_
      exact K
    clear K
    refine ev_ifb_eq (tgt := 56) d_C_together_28 rfl (fun h7 => ?_) (fun h7 => ?_)
    · replace KS := KS.2 h7
      rw [if_neg h7] at ez6
      subst ez6
      exact JJ
    · replace KS := KS.1 h7
      rw [if_pos h7] at ez6
      obtain ⟨q2, q4, q5⟩ := KS
      refine ev_iload d_C_together_31 rfl ?_
      refine ev_aload_n d_C_together_33 rfl rfl ?_
      refine ev_iload d_C_together_34 rfl ?_
      refine ev_iload_n d_C_together_36 rfl rfl ?_
      refine ev_aload_n d_C_together_37 rfl rfl ?_
      refine ev_getR gf_C_11 rfl (by decide) d_C_together_38 ?_
      refine ev_iload d_C_together_41 rfl ?_
      refine ev_aald3 rfl (by decide) (by decide) q2 d_C_together_43 ?_
      have b3 := ix_lt q2
      refine ev_iload_n d_C_together_44 rfl rfl ?_
      refine ev_callV (as := [vI a3]) (st := [vI a2, vI a5, vR 2 0, vI a4]) (k := 3) (i := (a5.toNatClampNeg)) g_R_speedFor ml_C_44 rfl rfl (by decide) b3 d_C_together_45 rfl rfl (Nat.le_of_ble_eq_true rfl) rfl (Nat.le_of_ble_eq_true rfl) ?_
      refine f_R_speedFor b3 q4 ?_
      show Ev none (d + 2) m_C_together 48 [some (vR 2 0), some (vI a1), some (vI a2), some (vI a3), some (vI a4), some (vI a5)] [vI (fn_R_speedFor σ (a5.toNatClampNeg) a3), vI a2, vI a5, vR 2 0, vI a4] σ post
      refine ev_callV (as := [vI a5, vI a2, vI (fn_R_speedFor σ (a5.toNatClampNeg) a3)]) (st := [vI a4]) (k := 2) (i := 0) g_C_minutesAt ml_C_47 rfl rfl (by decide) (by decide) d_C_together_48 rfl rfl (Nat.le_of_ble_eq_true rfl) rfl (Nat.le_of_ble_eq_true rfl) ?_
      refine f_C_minutesAt q5 ?_
      show Ev none (d + 2) m_C_together 51 [some (vR 2 0), some (vI a1), some (vI a2), some (vI a3), some (vI a4), some (vI a5)] [vI (fn_C_minutesAt σ a5 a2 (fn_R_speedFor σ (a5.toNatClampNeg) a3)), vI a4] σ post
      refine ev_mmax ml_C_55 (Nat.le_of_ble_eq_true rfl) d_C_together_51 ?_
      refine ev_istore (L' := [some (vR 2 0), some (vI a1), some (vI a2), some (vI a3), some (vI (imax a4 (fn_C_minutesAt σ a5 a2 (fn_R_speedFor σ (a5.toNatClampNeg) a3)))), some (vI a5)]) d_C_together_54 (by decide) rfl ?_
      subst ez6
      exact JJ
set_option maxRecDepth 4000 in
theorem sg_P_choose_0 {d : Nat} {σ : ST} {a1 : Int32} {a2 : Int32} {a3 : Int32} {a4 : Int32} {a5 : Int32} {a6 : Int32} {post : Option AV → ST → Prop} (K : (((σ.1 5 0 6) < a4) → (post none σ)) ∧ (¬ ((σ.1 5 0 6) < a4) → ((((σ.1 5 0 7) < a5) → (post none σ)) ∧ (¬ ((σ.1 5 0 7) < a5) → ((((σ.1 5 0 7) < a6) → (post none σ)) ∧ (¬ ((σ.1 5 0 7) < a6) → ((fs_P_isNoBetter σ a1 a2 a3) ∧ (((fp_P_isNoBetter σ a1 a2 a3) → (post none σ)) ∧ (¬ (fp_P_isNoBetter σ a1 a2 a3) → (((a1 < (fn_C_chapters σ)) → ((fs_C_isSkipped σ a1) ∧ ((((fn_C_isSkipped σ a1) = 0) → ((vp_in a1 8) ∧ ((vp_in a1 8) ∧ ((fs_C_linesOf σ a1) ∧ ((vp_in a1 8) ∧ (Ev none (d + 1) m_P_choose 0 [some (vR 5 0), some (vI (a1 + (1 : Int32))), some (vI (a2 + (fn_C_linesOf σ a1))), some (vI (a3 + (iabs ((σ.1 21 0 (a1.toNatClampNeg)) - (σ.1 22 0 (a1.toNatClampNeg)))))), some (vI (a4 + (imax (σ.1 21 0 (a1.toNatClampNeg)) (σ.1 22 0 (a1.toNatClampNeg))))), some (vI a5), some (vI a6), none, none, none] [] (setI σ 23 0 (a1.toNatClampNeg) (0 : Int32)) (fun r s19 => r = none ∧ ((vp_in a1 8) ∧ (Ev none (d + 1) m_P_choose 0 [some (vR 5 0), some (vI (a1 + (1 : Int32))), some (vI (a2 + (fn_C_linesOf σ a1))), some (vI a3), some (vI a4), some (vI (a5 + (σ.1 21 0 (a1.toNatClampNeg)))), some (vI (a6 + (σ.1 22 0 (a1.toNatClampNeg)))), none, none, none] [] (setI s19 23 0 (a1.toNatClampNeg) (1 : Int32)) (fun r s21 => r = none ∧ ((vp_in a1 8) ∧ (Ev none (d + 1) m_P_choose 0 [some (vR 5 0), some (vI (a1 + (1 : Int32))), some (vI a2), some (vI a3), some (vI a4), some (vI a5), some (vI a6), none, none, none] [] (setI s21 23 0 (a1.toNatClampNeg) (2 : Int32)) (fun r s23 => r = none ∧ (post none s23)))))))))))))) ∧ (¬ ((fn_C_isSkipped σ a1) = 0) → ((vp_in a1 8) ∧ (Ev none (d + 1) m_P_choose 0 [some (vR 5 0), some (vI (a1 + (1 : Int32))), some (vI a2), some (vI a3), some (vI a4), some (vI a5), some (vI a6), none, none, none] [] (setI σ 23 0 (a1.toNatClampNeg) (2 : Int32)) (fun r s14 => r = none ∧ (post none s14)))))))) ∧ (¬ (a1 < (fn_C_chapters σ)) → (Ev none (d + 1) m_P_keep 0 [some (vR 5 0), some (vI a2), some (vI a3), some (vI a4)] [] σ (fun r s24 => r = none ∧ (post none s24)))))))))))))) : Ev none (d + 2) m_P_choose 0 [some (vR 5 0), some (vI a1), some (vI a2), some (vI a3), some (vI a4), some (vI a5), some (vI a6), none, none, none] [] σ post := by
  refine ev_iload d_P_choose_0 rfl ?_
  refine ev_aload_n d_P_choose_2 rfl rfl ?_
  refine ev_getI gf_P_27 rfl (by decide) d_P_choose_3 ?_
  refine ev_icmp_gt (tgt := 37) d_P_choose_6 rfl (fun h1 => ?_) (fun h1 => ?_)
  · replace K := K.1 h1
    exact ev_ret (r := none) d_P_choose_37 rfl rfl K
  · replace K := K.2 h1
    refine ev_iload d_P_choose_9 rfl ?_
    refine ev_aload_n d_P_choose_11 rfl rfl ?_
    refine ev_getI gf_P_31 rfl (by decide) d_P_choose_12 ?_
    refine ev_icmp_gt (tgt := 37) d_P_choose_15 rfl (fun h2 => ?_) (fun h2 => ?_)
    · replace K := K.1 h2
      exact ev_ret (r := none) d_P_choose_37 rfl rfl K
    · replace K := K.2 h2
      refine ev_iload d_P_choose_18 rfl ?_
      refine ev_aload_n d_P_choose_20 rfl rfl ?_
      refine ev_getI gf_P_31 rfl (by decide) d_P_choose_21 ?_
      refine ev_icmp_gt (tgt := 37) d_P_choose_24 rfl (fun h3 => ?_) (fun h3 => ?_)
      · replace K := K.1 h3
        exact ev_ret (r := none) d_P_choose_37 rfl rfl K
      · replace K := K.2 h3
        refine ev_aload_n d_P_choose_27 rfl rfl ?_
        refine ev_iload_n d_P_choose_28 rfl rfl ?_
        refine ev_iload_n d_P_choose_29 rfl rfl ?_
        refine ev_iload_n d_P_choose_30 rfl rfl ?_
        obtain ⟨q4, K⟩ := K
        refine ev_callV (as := [vI a1, vI a2, vI a3]) (st := []) (k := 5) (i := 0) g_P_isNoBetter ml_P_69 rfl rfl (by decide) (by decide) d_P_choose_31 rfl rfl (Nat.le_of_ble_eq_true rfl) rfl (Nat.le_of_ble_eq_true rfl) ?_
        refine f_P_isNoBetter q4 ?_
        show Ev none (d + 2) m_P_choose 34 [some (vR 5 0), some (vI a1), some (vI a2), some (vI a3), some (vI a4), some (vI a5), some (vI a6), none, none, none] [vI (bi (fp_P_isNoBetter σ a1 a2 a3))] σ post
        refine ev_ifb_eq (tgt := 38) d_P_choose_34 rfl (fun h5 => ?_) (fun h5 => ?_)
        · replace K := K.2 h5
          refine ev_iload_n d_P_choose_38 rfl rfl ?_
          refine ev_aload_n d_P_choose_39 rfl rfl ?_
          refine ev_getR gf_P_43 rfl (by decide) d_P_choose_40 ?_
          refine ev_callV (as := []) (st := [vI a1]) (k := 2) (i := 0) g_C_chapters ml_P_47 rfl rfl (by decide) (by decide) d_P_choose_43 rfl rfl (Nat.le_of_ble_eq_true rfl) rfl (Nat.le_of_ble_eq_true rfl) ?_
          refine f_C_chapters  ?_
          show Ev none (d + 2) m_P_choose 46 [some (vR 5 0), some (vI a1), some (vI a2), some (vI a3), some (vI a4), some (vI a5), some (vI a6), none, none, none] [vI (fn_C_chapters σ), vI a1] σ post
          refine ev_icmp_lt (tgt := 58) d_P_choose_46 rfl (fun h6 => ?_) (fun h6 => ?_)
          · replace K := K.1 h6
            refine ev_aload_n d_P_choose_58 rfl rfl ?_
            refine ev_getR gf_P_43 rfl (by decide) d_P_choose_59 ?_
            refine ev_iload_n d_P_choose_62 rfl rfl ?_
            obtain ⟨q7, K⟩ := K
            refine ev_callV (as := [vI a1]) (st := []) (k := 2) (i := 0) g_C_isSkipped ml_P_57 rfl rfl (by decide) (by decide) d_P_choose_63 rfl rfl (Nat.le_of_ble_eq_true rfl) rfl (Nat.le_of_ble_eq_true rfl) ?_
            refine f_C_isSkipped q7 ?_
            show Ev none (d + 2) m_P_choose 66 [some (vR 5 0), some (vI a1), some (vI a2), some (vI a3), some (vI a4), some (vI a5), some (vI a6), none, none, none] [vI (fn_C_isSkipped σ a1)] σ post
            refine ev_if_ne (tgt := 166) d_P_choose_66 rfl (fun h12 => ?_) (fun h12 => ?_)
            · replace K := K.2 h12
              refine ev_aload_n d_P_choose_166 rfl rfl ?_
              refine ev_getR gf_P_18 rfl (by decide) d_P_choose_167 ?_
              refine ev_iload_n d_P_choose_170 rfl rfl ?_
              refine ev_iconst (v := 2) d_P_choose_171 (by decide) ?_
              obtain ⟨q13, K⟩ := K
              refine ev_iast rfl (by decide) (by decide) q13 d_P_choose_172 ?_
              refine ev_aload_n d_P_choose_173 rfl rfl ?_
              refine ev_iload_n d_P_choose_174 rfl rfl ?_
              refine ev_iconst (v := 1) d_P_choose_175 (by decide) ?_
              refine ev_iadd d_P_choose_176 ?_
              refine ev_iload_n d_P_choose_177 rfl rfl ?_
              refine ev_iload_n d_P_choose_178 rfl rfl ?_
              refine ev_iload d_P_choose_179 rfl ?_
              refine ev_iload d_P_choose_181 rfl ?_
              refine ev_iload d_P_choose_183 rfl ?_
              refine ev_callV (as := [vI (a1 + (1 : Int32)), vI a2, vI a3, vI a4, vI a5, vI a6]) (st := []) (k := 5) (i := 0) g_P_choose ml_P_65 rfl rfl (by decide) (by decide) d_P_choose_185 rfl rfl (Nat.le_of_ble_eq_true rfl) rfl (Nat.le_of_ble_eq_true rfl) ?_
              refine Ev.mono K ?_
              rintro _ s14 ⟨rfl, K⟩
              show Ev none (d + 2) m_P_choose 188 [some (vR 5 0), some (vI a1), some (vI a2), some (vI a3), some (vI a4), some (vI a5), some (vI a6), none, none, none] [] s14 post
              exact ev_ret (r := none) d_P_choose_188 rfl rfl K
            · replace K := K.1 h12
              refine ev_aload_n d_P_choose_69 rfl rfl ?_
              refine ev_getR gf_P_9 rfl (by decide) d_P_choose_70 ?_
              refine ev_iload_n d_P_choose_73 rfl rfl ?_
              obtain ⟨q15, K⟩ := K
              refine ev_iald rfl (by decide) (by decide) q15 d_P_choose_74 ?_
              refine ev_istore (L' := [some (vR 5 0), some (vI a1), some (vI a2), some (vI a3), some (vI a4), some (vI a5), some (vI a6), some (vI (σ.1 21 0 (a1.toNatClampNeg))), none, none]) d_P_choose_75 (by decide) rfl ?_
              refine ev_aload_n d_P_choose_77 rfl rfl ?_
              refine ev_getR gf_P_15 rfl (by decide) d_P_choose_78 ?_
              refine ev_iload_n d_P_choose_81 rfl rfl ?_
              obtain ⟨q16, K⟩ := K
              refine ev_iald rfl (by decide) (by decide) q16 d_P_choose_82 ?_
              refine ev_istore (L' := [some (vR 5 0), some (vI a1), some (vI a2), some (vI a3), some (vI a4), some (vI a5), some (vI a6), some (vI (σ.1 21 0 (a1.toNatClampNeg))), some (vI (σ.1 22 0 (a1.toNatClampNeg))), none]) d_P_choose_83 (by decide) rfl ?_
              refine ev_iload_n d_P_choose_85 rfl rfl ?_
              refine ev_aload_n d_P_choose_86 rfl rfl ?_
              refine ev_getR gf_P_43 rfl (by decide) d_P_choose_87 ?_
              refine ev_iload_n d_P_choose_90 rfl rfl ?_
              obtain ⟨q17, K⟩ := K
              refine ev_callV (as := [vI a1]) (st := [vI a2]) (k := 2) (i := 0) g_C_linesOf ml_P_61 rfl rfl (by decide) (by decide) d_P_choose_91 rfl rfl (Nat.le_of_ble_eq_true rfl) rfl (Nat.le_of_ble_eq_true rfl) ?_
              refine f_C_linesOf q17 ?_
              show Ev none (d + 2) m_P_choose 94 [some (vR 5 0), some (vI a1), some (vI a2), some (vI a3), some (vI a4), some (vI a5), some (vI a6), some (vI (σ.1 21 0 (a1.toNatClampNeg))), some (vI (σ.1 22 0 (a1.toNatClampNeg))), none] [vI (fn_C_linesOf σ a1), vI a2] σ post
              refine ev_iadd d_P_choose_94 ?_
              refine ev_istore (L' := [some (vR 5 0), some (vI a1), some (vI a2), some (vI a3), some (vI a4), some (vI a5), some (vI a6), some (vI (σ.1 21 0 (a1.toNatClampNeg))), some (vI (σ.1 22 0 (a1.toNatClampNeg))), some (vI (a2 + (fn_C_linesOf σ a1)))]) d_P_choose_95 (by decide) rfl ?_
              refine ev_aload_n d_P_choose_97 rfl rfl ?_
              refine ev_getR gf_P_18 rfl (by decide) d_P_choose_98 ?_
              refine ev_iload_n d_P_choose_101 rfl rfl ?_
              refine ev_iconst (v := 0) d_P_choose_102 (by decide) ?_
              obtain ⟨q18, K⟩ := K
              refine ev_iast rfl (by decide) (by decide) q18 d_P_choose_103 ?_
              refine ev_aload_n d_P_choose_104 rfl rfl ?_
              refine ev_iload_n d_P_choose_105 rfl rfl ?_
              refine ev_iconst (v := 1) d_P_choose_106 (by decide) ?_
              refine ev_iadd d_P_choose_107 ?_
              refine ev_iload d_P_choose_108 rfl ?_
              refine ev_iload_n d_P_choose_110 rfl rfl ?_
              refine ev_iload d_P_choose_111 rfl ?_
              refine ev_iload d_P_choose_113 rfl ?_
              refine ev_isub d_P_choose_115 ?_
              refine ev_mabs ml_P_77 (Nat.le_of_ble_eq_true rfl) d_P_choose_116 ?_
              refine ev_iadd d_P_choose_119 ?_
              refine ev_iload d_P_choose_120 rfl ?_
              refine ev_iload d_P_choose_122 rfl ?_
              refine ev_iload d_P_choose_124 rfl ?_
              refine ev_mmax ml_P_82 (Nat.le_of_ble_eq_true rfl) d_P_choose_126 ?_
              refine ev_iadd d_P_choose_129 ?_
              refine ev_iload d_P_choose_130 rfl ?_
              refine ev_iload d_P_choose_132 rfl ?_
              refine ev_callV (as := [vI (a1 + (1 : Int32)), vI (a2 + (fn_C_linesOf σ a1)), vI (a3 + (iabs ((σ.1 21 0 (a1.toNatClampNeg)) - (σ.1 22 0 (a1.toNatClampNeg))))), vI (a4 + (imax (σ.1 21 0 (a1.toNatClampNeg)) (σ.1 22 0 (a1.toNatClampNeg)))), vI a5, vI a6]) (st := []) (k := 5) (i := 0) g_P_choose ml_P_65 rfl rfl (by decide) (by decide) d_P_choose_134 rfl rfl (Nat.le_of_ble_eq_true rfl) rfl (Nat.le_of_ble_eq_true rfl) ?_
              refine Ev.mono K ?_
              rintro _ s19 ⟨rfl, K⟩
              show Ev none (d + 2) m_P_choose 137 [some (vR 5 0), some (vI a1), some (vI a2), some (vI a3), some (vI a4), some (vI a5), some (vI a6), some (vI (σ.1 21 0 (a1.toNatClampNeg))), some (vI (σ.1 22 0 (a1.toNatClampNeg))), some (vI (a2 + (fn_C_linesOf σ a1)))] [] s19 post
              refine ev_aload_n d_P_choose_137 rfl rfl ?_
              refine ev_getR gf_P_18 rfl (by decide) d_P_choose_138 ?_
              refine ev_iload_n d_P_choose_141 rfl rfl ?_
              refine ev_iconst (v := 1) d_P_choose_142 (by decide) ?_
              obtain ⟨q20, K⟩ := K
              refine ev_iast rfl (by decide) (by decide) q20 d_P_choose_143 ?_
              refine ev_aload_n d_P_choose_144 rfl rfl ?_
              refine ev_iload_n d_P_choose_145 rfl rfl ?_
              refine ev_iconst (v := 1) d_P_choose_146 (by decide) ?_
              refine ev_iadd d_P_choose_147 ?_
              refine ev_iload d_P_choose_148 rfl ?_
              refine ev_iload_n d_P_choose_150 rfl rfl ?_
              refine ev_iload d_P_choose_151 rfl ?_
              refine ev_iload d_P_choose_153 rfl ?_
              refine ev_iload d_P_choose_155 rfl ?_
              refine ev_iadd d_P_choose_157 ?_
              refine ev_iload d_P_choose_158 rfl ?_
              refine ev_iload d_P_choose_160 rfl ?_
              refine ev_iadd d_P_choose_162 ?_
              refine ev_callV (as := [vI (a1 + (1 : Int32)), vI (a2 + (fn_C_linesOf σ a1)), vI a3, vI a4, vI (a5 + (σ.1 21 0 (a1.toNatClampNeg))), vI (a6 + (σ.1 22 0 (a1.toNatClampNeg)))]) (st := []) (k := 5) (i := 0) g_P_choose ml_P_65 rfl rfl (by decide) (by decide) d_P_choose_163 rfl rfl (Nat.le_of_ble_eq_true rfl) rfl (Nat.le_of_ble_eq_true rfl) ?_
              refine Ev.mono K ?_
              rintro _ s21 ⟨rfl, K⟩
              show Ev none (d + 2) m_P_choose 166 [some (vR 5 0), some (vI a1), some (vI a2), some (vI a3), some (vI a4), some (vI a5), some (vI a6), some (vI (σ.1 21 0 (a1.toNatClampNeg))), some (vI (σ.1 22 0 (a1.toNatClampNeg))), some (vI (a2 + (fn_C_linesOf σ a1)))] [] s21 post
              refine ev_aload_n d_P_choose_166 rfl rfl ?_
              refine ev_getR gf_P_18 rfl (by decide) d_P_choose_167 ?_
              refine ev_iload_n d_P_choose_170 rfl rfl ?_
              refine ev_iconst (v := 2) d_P_choose_171 (by decide) ?_
              obtain ⟨q22, K⟩ := K
              refine ev_iast rfl (by decide) (by decide) q22 d_P_choose_172 ?_
              refine ev_aload_n d_P_choose_173 rfl rfl ?_
              refine ev_iload_n d_P_choose_174 rfl rfl ?_
              refine ev_iconst (v := 1) d_P_choose_175 (by decide) ?_
              refine ev_iadd d_P_choose_176 ?_
              refine ev_iload_n d_P_choose_177 rfl rfl ?_
              refine ev_iload_n d_P_choose_178 rfl rfl ?_
              refine ev_iload d_P_choose_179 rfl ?_
              refine ev_iload d_P_choose_181 rfl ?_
              refine ev_iload d_P_choose_183 rfl ?_
              refine ev_callV (as := [vI (a1 + (1 : Int32)), vI a2, vI a3, vI a4, vI a5, vI a6]) (st := []) (k := 5) (i := 0) g_P_choose ml_P_65 rfl rfl (by decide) (by decide) d_P_choose_185 rfl rfl (Nat.le_of_ble_eq_true rfl) rfl (Nat.le_of_ble_eq_true rfl) ?_
              refine Ev.mono K ?_
              rintro _ s23 ⟨rfl, K⟩
              show Ev none (d + 2) m_P_choose 188 [some (vR 5 0), some (vI a1), some (vI a2), some (vI a3), some (vI a4), some (vI a5), some (vI a6), some (vI (σ.1 21 0 (a1.toNatClampNeg))), some (vI (σ.1 22 0 (a1.toNatClampNeg))), some (vI (a2 + (fn_C_linesOf σ a1)))] [] s23 post
              exact ev_ret (r := none) d_P_choose_188 rfl rfl K
          · replace K := K.2 h6
            refine ev_aload_n d_P_choose_49 rfl rfl ?_
            refine ev_iload_n d_P_choose_50 rfl rfl ?_
            refine ev_iload_n d_P_choose_51 rfl rfl ?_
            refine ev_iload d_P_choose_52 rfl ?_
            refine ev_callV (as := [vI a2, vI a3, vI a4]) (st := []) (k := 5) (i := 0) g_P_keep ml_P_73 rfl rfl (by decide) (by decide) d_P_choose_54 rfl rfl (Nat.le_of_ble_eq_true rfl) rfl (Nat.le_of_ble_eq_true rfl) ?_
            refine Ev.mono K ?_
            rintro _ s24 ⟨rfl, K⟩
            show Ev none (d + 2) m_P_choose 57 [some (vR 5 0), some (vI a1), some (vI a2), some (vI a3), some (vI a4), some (vI a5), some (vI a6), none, none, none] [] s24 post
            exact ev_ret (r := none) d_P_choose_57 rfl rfl K
        · replace K := K.1 h5
          exact ev_ret (r := none) d_P_choose_37 rfl rfl K
set_option maxRecDepth 4000 in
theorem sg_T_leastPartner_0 {d : Nat} {σ : ST} {a1 : Int32} {a2 : Int32} {post : Option AV → ST → Prop} (K : Ev none (d + 2) m_T_leastPartner 7 [some (vR 7 0), some (vI a1), some (vI a2), some (vI a2), some (vI (a2 + (1 : Int32)))] [] σ post) : Ev none (d + 2) m_T_leastPartner 0 [some (vR 7 0), some (vI a1), some (vI a2), none, none] [] σ post := by
  refine ev_iload_n d_T_leastPartner_0 rfl rfl ?_
  refine ev_istore_n (L' := [some (vR 7 0), some (vI a1), some (vI a2), some (vI a2), none]) d_T_leastPartner_1 rfl (by decide) rfl ?_
  refine ev_iload_n d_T_leastPartner_2 rfl rfl ?_
  refine ev_iconst (v := 1) d_T_leastPartner_3 (by decide) ?_
  refine ev_iadd d_T_leastPartner_4 ?_
  refine ev_istore (L' := [some (vR 7 0), some (vI a1), some (vI a2), some (vI a2), some (vI (a2 + (1 : Int32)))]) d_T_leastPartner_5 (by decide) rfl ?_
  exact K
set_option maxRecDepth 4000 in
theorem sg_T_leastPartner_7 {d : Nat} {σ : ST} {a1 : Int32} {a2 : Int32} {a3 : Int32} {a4 : Int32} {post : Option AV → ST → Prop} (K : (((6 : Int32) ≤ a4) → (post (some (vI a3)) σ)) ∧ (¬ ((6 : Int32) ≤ a4) → ((((fp_O_holds σ a1 a4) → (((a3 = a2) → True) ∧ (¬ (a3 = a2) → ((fs_T_waitWith σ a1 a2 a4) ∧ (fs_T_waitWith σ a1 a2 a3))))) ∧ (¬ (fp_O_holds σ a1 a4) → True)) ∧ (∀ z4 : Int32, z4 = (if fp_O_holds σ a1 a4 then (if a3 = a2 then a4 else (if (fn_T_waitWith σ a1 a2 a3) ≤ (fn_T_waitWith σ a1 a2 a4) then a3 else a4)) else a3) → (Ev none (d + 2) m_T_leastPartner 7 [some (vR 7 0), some (vI a1), some (vI a2), some (vI z4), some (vI (a4 + (1 : Int32)))] [] σ post))))) : Ev none (d + 2) m_T_leastPartner 7 [some (vR 7 0), some (vI a1), some (vI a2), some (vI a3), some (vI a4)] [] σ post := by
  refine ev_iload d_T_leastPartner_7 rfl ?_
  refine ev_bipush (v := 6) d_T_leastPartner_9 (by decide) ?_
  refine ev_icmp_ge (tgt := 55) d_T_leastPartner_11 rfl (fun h1 => ?_) (fun h1 => ?_)
  · replace K := K.1 h1
    refine ev_iload_n d_T_leastPartner_55 rfl rfl ?_
    exact ev_ret (r := some (vI a3)) d_T_leastPartner_56 rfl rfl K
  · replace K := K.2 h1
    refine ev_iload_n d_T_leastPartner_14 rfl rfl ?_
    refine ev_iload d_T_leastPartner_15 rfl ?_
    refine ev_callN (as := [vI a1, vI a4]) (st := []) g_O_holds ml_T_46 d_T_leastPartner_17 rfl rfl (Nat.le_of_ble_eq_true rfl) rfl (Nat.le_of_ble_eq_true rfl) ?_
    refine f_O_holds  ?_
    show Ev none (d + 2) m_T_leastPartner 20 [some (vR 7 0), some (vI a1), some (vI a2), some (vI a3), some (vI a4)] [vI (bi (fp_O_holds σ a1 a4))] σ post
    obtain ⟨KS, K⟩ := K
    obtain ⟨z4, ez4⟩ : ∃ z : Int32, z = (if fp_O_holds σ a1 a4 then (if a3 = a2 then a4 else (if (fn_T_waitWith σ a1 a2 a3) ≤ (fn_T_waitWith σ a1 a2 a4) then a3 else a4)) else a3) := ⟨_, rfl⟩
    replace K := K z4 ez4
    have JJ : Ev none (d + 2) m_T_leastPartner 49 [some (vR 7 0), some (vI a1), some (vI a2), some (vI z4), some (vI a4)] [] σ post := by
      refine ev_iinc (v := a4 + (1 : Int32)) (L' := [some (vR 7 0), some (vI a1), some (vI a2), some (vI z4), some (vI (a4 + (1 : Int32)))]) d_T_leastPartner_49 rfl (congrArg (a4 + ·) (by decide)) (by decide) rfl ?_
      refine ev_goto (tgt := 7) d_T_leastPartner_52 rfl ?_
      exact K
    clear K
    refine ev_ifb_eq (tgt := 49) d_T_leastPartner_20 rfl (fun h5 => ?_) (fun h5 => ?_)
    · replace KS := KS.2 h5
      rw [if_neg h5] at ez4
      subst ez4
      exact JJ
    · replace KS := KS.1 h5
      rw [if_pos h5] at ez4
      refine ev_iload_n d_T_leastPartner_23 rfl rfl ?_
      refine ev_iload_n d_T_leastPartner_24 rfl rfl ?_
      refine ev_icmp_eq (tgt := 46) d_T_leastPartner_25 rfl (fun h6 => ?_) (fun h6 => ?_)
      · replace KS := KS.1 h6
        rw [if_pos h6] at ez4
        refine ev_iload d_T_leastPartner_46 rfl ?_
        refine ev_istore_n (L' := [some (vR 7 0), some (vI a1), some (vI a2), some (vI a4), some (vI a4)]) d_T_leastPartner_48 rfl (by decide) rfl ?_
        subst ez4
        exact JJ
      · replace KS := KS.2 h6
        rw [if_neg h6] at ez4
        obtain ⟨q2, q3⟩ := KS
        refine ev_aload_n d_T_leastPartner_28 rfl rfl ?_
        refine ev_iload_n d_T_leastPartner_29 rfl rfl ?_
        refine ev_iload_n d_T_leastPartner_30 rfl rfl ?_
        refine ev_iload d_T_leastPartner_31 rfl ?_
        refine ev_callV (as := [vI a1, vI a2, vI a4]) (st := []) (k := 7) (i := 0) g_T_waitWith ml_T_42 rfl rfl (by decide) (by decide) d_T_leastPartner_33 rfl rfl (Nat.le_of_ble_eq_true rfl) rfl (Nat.le_of_ble_eq_true rfl) ?_
        refine f_T_waitWith q2 ?_
        show Ev none (d + 2) m_T_leastPartner 36 [some (vR 7 0), some (vI a1), some (vI a2), some (vI a3), some (vI a4)] [vI (fn_T_waitWith σ a1 a2 a4)] σ post
        refine ev_aload_n d_T_leastPartner_36 rfl rfl ?_
        refine ev_iload_n d_T_leastPartner_37 rfl rfl ?_
        refine ev_iload_n d_T_leastPartner_38 rfl rfl ?_
        refine ev_iload_n d_T_leastPartner_39 rfl rfl ?_
        refine ev_callV (as := [vI a1, vI a2, vI a3]) (st := [vI (fn_T_waitWith σ a1 a2 a4)]) (k := 7) (i := 0) g_T_waitWith ml_T_42 rfl rfl (by decide) (by decide) d_T_leastPartner_40 rfl rfl (Nat.le_of_ble_eq_true rfl) rfl (Nat.le_of_ble_eq_true rfl) ?_
        refine f_T_waitWith q3 ?_
        show Ev none (d + 2) m_T_leastPartner 43 [some (vR 7 0), some (vI a1), some (vI a2), some (vI a3), some (vI a4)] [vI (fn_T_waitWith σ a1 a2 a3), vI (fn_T_waitWith σ a1 a2 a4)] σ post
        refine ev_icmp_ge (tgt := 49) d_T_leastPartner_43 rfl (fun h7 => ?_) (fun h7 => ?_)
        · rw [if_pos h7] at ez4
          subst ez4
          exact JJ
        · rw [if_neg h7] at ez4
          refine ev_iload d_T_leastPartner_46 rfl ?_
          refine ev_istore_n (L' := [some (vR 7 0), some (vI a1), some (vI a2), some (vI a4), some (vI a4)]) d_T_leastPartner_48 rfl (by decide) rfl ?_
          subst ez4
          exact JJ
set_option maxRecDepth 4000 in
theorem sg_B_parse_0 {d : Nat} {σ : ST}  {post : Option AV → ST → Prop} (K : Ev none (d + 2) m_B_findFault 0 [some (vR 1 0), none] [] σ (fun r s1 => ∃ z2 : Int32, r = some (vI z2) ∧ (∀ z3 : Int32, z3 = (if ((setI s1 1 0 5 z2).1 1 0 5) = (-1 : Int32) then ((((setI s1 1 0 5 z2).1 1 0 3) + (1 : Int32)) / (4 : Int32)) else (0 : Int32)) → (Ev none (d + 3) m_B_parse 34 [some (vR 1 0), some (vI (0 : Int32))] [] (setI (setI s1 1 0 5 z2) 1 0 4 z3) post)))) : Ev none (d + 3) m_B_parse 0 [some (vR 1 0), none] [] σ post := by
  refine ev_aload_n d_B_parse_0 rfl rfl ?_
  refine ev_aload_n d_B_parse_1 rfl rfl ?_
  refine ev_callV (as := []) (st := [vR 1 0]) (k := 1) (i := 0) g_B_findFault ml_B_34 rfl rfl (by decide) (by decide) d_B_parse_2 rfl rfl (Nat.le_of_ble_eq_true rfl) rfl (Nat.le_of_ble_eq_true rfl) ?_
  refine Ev.mono K ?_
  rintro _ s1 ⟨z2, rfl, K⟩
  show Ev none (d + 3) m_B_parse 5 [some (vR 1 0), none] [vI z2, vR 1 0] s1 post
  refine ev_putI gp_B_28 rfl (by decide) d_B_parse_5 ?_
  refine ev_aload_n d_B_parse_8 rfl rfl ?_
  refine ev_aload_n d_B_parse_9 rfl rfl ?_
  refine ev_getI gf_B_28 rfl (by decide) d_B_parse_10 ?_
  refine ev_iconst (v := -1) d_B_parse_13 (by decide) ?_
  obtain ⟨z3, ez3⟩ : ∃ z : Int32, z = (if ((setI s1 1 0 5 z2).1 1 0 5) = (-1 : Int32) then ((((setI s1 1 0 5 z2).1 1 0 3) + (1 : Int32)) / (4 : Int32)) else (0 : Int32)) := ⟨_, rfl⟩
  replace K := K z3 ez3
  have JJ : Ev none (d + 3) m_B_parse 29 [some (vR 1 0), none] [vI z3, vR 1 0] (setI s1 1 0 5 z2) post := by
    refine ev_putI gp_B_25 rfl (by decide) d_B_parse_29 ?_
    refine ev_iconst (v := 0) d_B_parse_32 (by decide) ?_
    refine ev_istore_n (L' := [some (vR 1 0), some (vI (0 : Int32))]) d_B_parse_33 rfl (by decide) rfl ?_
    exact K
  clear K
  refine ev_icmp_ne (tgt := 28) d_B_parse_14 rfl (fun h4 => ?_) (fun h4 => ?_)
  · rw [if_neg h4] at ez3
    refine ev_iconst (v := 0) d_B_parse_28 (by decide) ?_
    subst ez3
    exact JJ
  · rw [if_pos h4] at ez3
    refine ev_aload_n d_B_parse_17 rfl rfl ?_
    refine ev_getI gf_B_21 rfl (by decide) d_B_parse_18 ?_
    refine ev_iconst (v := 1) d_B_parse_21 (by decide) ?_
    refine ev_iadd d_B_parse_22 ?_
    refine ev_iconst (v := 4) d_B_parse_23 (by decide) ?_
    refine ev_idiv d_B_parse_24 (by decide) ?_
    refine ev_goto (tgt := 29) d_B_parse_25 rfl ?_
    subst ez3
    exact JJ
set_option maxRecDepth 4000 in
theorem sg_B_parse_34 {d : Nat} {σ : ST} {a1 : Int32} {post : Option AV → ST → Prop} (K : (((σ.1 1 0 4) ≤ a1) → (post none σ)) ∧ (¬ ((σ.1 1 0 4) ≤ a1) → ((fs_B_kindAt σ (a1 * (4 : Int32))) ∧ ((vp_in a1 8) ∧ ((fs_B_figureAt (setI σ 13 0 (a1.toNatClampNeg) (fn_B_kindAt σ (a1 * (4 : Int32)))) ((a1 * (4 : Int32)) + (1 : Int32))) ∧ ((fs_B_figureAt (setI σ 13 0 (a1.toNatClampNeg) (fn_B_kindAt σ (a1 * (4 : Int32)))) ((a1 * (4 : Int32)) + (2 : Int32))) ∧ ((vp_in a1 8) ∧ (Ev none (d + 3) m_B_parse 34 [some (vR 1 0), some (vI (a1 + (1 : Int32)))] [] (setI (setI σ 13 0 (a1.toNatClampNeg) (fn_B_kindAt σ (a1 * (4 : Int32)))) 14 0 (a1.toNatClampNeg) (((10 : Int32) * (fn_B_figureAt (setI σ 13 0 (a1.toNatClampNeg) (fn_B_kindAt σ (a1 * (4 : Int32)))) ((a1 * (4 : Int32)) + (1 : Int32)))) + (fn_B_figureAt (setI σ 13 0 (a1.toNatClampNeg) (fn_B_kindAt σ (a1 * (4 : Int32)))) ((a1 * (4 : Int32)) + (2 : Int32))))) post)))))))) : Ev none (d + 3) m_B_parse 34 [some (vR 1 0), some (vI a1)] [] σ post := by
  refine ev_iload_n d_B_parse_34 rfl rfl ?_
  refine ev_aload_n d_B_parse_35 rfl rfl ?_
  refine ev_getI gf_B_25 rfl (by decide) d_B_parse_36 ?_
  refine ev_icmp_ge (tgt := 89) d_B_parse_39 rfl (fun h1 => ?_) (fun h1 => ?_)
  · replace K := K.1 h1
    exact ev_ret (r := none) d_B_parse_89 rfl rfl K
  · replace K := K.2 h1
    refine ev_aload_n d_B_parse_42 rfl rfl ?_
    refine ev_getR gf_B_15 rfl (by decide) d_B_parse_43 ?_
    refine ev_iload_n d_B_parse_46 rfl rfl ?_
    refine ev_aload_n d_B_parse_47 rfl rfl ?_
    refine ev_iload_n d_B_parse_48 rfl rfl ?_
    refine ev_iconst (v := 4) d_B_parse_49 (by decide) ?_
    refine ev_imul d_B_parse_50 ?_
    obtain ⟨q2, K⟩ := K
    refine ev_callV (as := [vI (a1 * (4 : Int32))]) (st := [vI a1, vR 13 0]) (k := 1) (i := 0) g_B_kindAt ml_B_38 rfl rfl (by decide) (by decide) d_B_parse_51 rfl rfl (Nat.le_of_ble_eq_true rfl) rfl (Nat.le_of_ble_eq_true rfl) ?_
    refine f_B_kindAt q2 ?_
    show Ev none (d + 3) m_B_parse 54 [some (vR 1 0), some (vI a1)] [vI (fn_B_kindAt σ (a1 * (4 : Int32))), vI a1, vR 13 0] σ post
    obtain ⟨q3, K⟩ := K
    refine ev_iast rfl (by decide) (by decide) q3 d_B_parse_54 ?_
    refine ev_aload_n d_B_parse_55 rfl rfl ?_
    refine ev_getR gf_B_18 rfl (by decide) d_B_parse_56 ?_
    refine ev_iload_n d_B_parse_59 rfl rfl ?_
    refine ev_bipush (v := 10) d_B_parse_60 (by decide) ?_
    refine ev_aload_n d_B_parse_62 rfl rfl ?_
    refine ev_iload_n d_B_parse_63 rfl rfl ?_
    refine ev_iconst (v := 4) d_B_parse_64 (by decide) ?_
    refine ev_imul d_B_parse_65 ?_
    refine ev_iconst (v := 1) d_B_parse_66 (by decide) ?_
    refine ev_iadd d_B_parse_67 ?_
    obtain ⟨q4, K⟩ := K
    refine ev_callV (as := [vI ((a1 * (4 : Int32)) + (1 : Int32))]) (st := [vI (10 : Int32), vI a1, vR 14 0]) (k := 1) (i := 0) g_B_figureAt ml_B_42 rfl rfl (by decide) (by decide) d_B_parse_68 rfl rfl (Nat.le_of_ble_eq_true rfl) rfl (Nat.le_of_ble_eq_true rfl) ?_
    refine f_B_figureAt q4 ?_
    show Ev none (d + 3) m_B_parse 71 [some (vR 1 0), some (vI a1)] [vI (fn_B_figureAt (setI σ 13 0 (a1.toNatClampNeg) (fn_B_kindAt σ (a1 * (4 : Int32)))) ((a1 * (4 : Int32)) + (1 : Int32))), vI (10 : Int32), vI a1, vR 14 0] (setI σ 13 0 (a1.toNatClampNeg) (fn_B_kindAt σ (a1 * (4 : Int32)))) post
    refine ev_imul d_B_parse_71 ?_
    refine ev_aload_n d_B_parse_72 rfl rfl ?_
    refine ev_iload_n d_B_parse_73 rfl rfl ?_
    refine ev_iconst (v := 4) d_B_parse_74 (by decide) ?_
    refine ev_imul d_B_parse_75 ?_
    refine ev_iconst (v := 2) d_B_parse_76 (by decide) ?_
    refine ev_iadd d_B_parse_77 ?_
    obtain ⟨q5, K⟩ := K
    refine ev_callV (as := [vI ((a1 * (4 : Int32)) + (2 : Int32))]) (st := [vI ((10 : Int32) * (fn_B_figureAt (setI σ 13 0 (a1.toNatClampNeg) (fn_B_kindAt σ (a1 * (4 : Int32)))) ((a1 * (4 : Int32)) + (1 : Int32)))), vI a1, vR 14 0]) (k := 1) (i := 0) g_B_figureAt ml_B_42 rfl rfl (by decide) (by decide) d_B_parse_78 rfl rfl (Nat.le_of_ble_eq_true rfl) rfl (Nat.le_of_ble_eq_true rfl) ?_
    refine f_B_figureAt q5 ?_
    show Ev none (d + 3) m_B_parse 81 [some (vR 1 0), some (vI a1)] [vI (fn_B_figureAt (setI σ 13 0 (a1.toNatClampNeg) (fn_B_kindAt σ (a1 * (4 : Int32)))) ((a1 * (4 : Int32)) + (2 : Int32))), vI ((10 : Int32) * (fn_B_figureAt (setI σ 13 0 (a1.toNatClampNeg) (fn_B_kindAt σ (a1 * (4 : Int32)))) ((a1 * (4 : Int32)) + (1 : Int32)))), vI a1, vR 14 0] (setI σ 13 0 (a1.toNatClampNeg) (fn_B_kindAt σ (a1 * (4 : Int32)))) post
    refine ev_iadd d_B_parse_81 ?_
    obtain ⟨q6, K⟩ := K
    refine ev_iast rfl (by decide) (by decide) q6 d_B_parse_82 ?_
    refine ev_iinc (v := a1 + (1 : Int32)) (L' := [some (vR 1 0), some (vI (a1 + (1 : Int32)))]) d_B_parse_83 rfl (congrArg (a1 + ·) (by decide)) (by decide) rfl ?_
    refine ev_goto (tgt := 34) d_B_parse_86 rfl ?_
    exact K
set_option maxRecDepth 4000 in
theorem sg_C_waitOfTwo_0 {d : Nat} {σ : ST} {a1 : Int32} {a2 : Int32} {post : Option AV → ST → Prop} (K : Ev none (d + 3) m_C_waitOfTwo 5 [some (vR 2 0), some (vI a1), some (vI a2), some (vI (0 : Int32)), some (vI (0 : Int32))] [] σ post) : Ev none (d + 3) m_C_waitOfTwo 0 [some (vR 2 0), some (vI a1), some (vI a2), none, none] [] σ post := by
  refine ev_iconst (v := 0) d_C_waitOfTwo_0 (by decide) ?_
  refine ev_istore_n (L' := [some (vR 2 0), some (vI a1), some (vI a2), some (vI (0 : Int32)), none]) d_C_waitOfTwo_1 rfl (by decide) rfl ?_
  refine ev_iconst (v := 0) d_C_waitOfTwo_2 (by decide) ?_
  refine ev_istore (L' := [some (vR 2 0), some (vI a1), some (vI a2), some (vI (0 : Int32)), some (vI (0 : Int32))]) d_C_waitOfTwo_3 (by decide) rfl ?_
  exact K
set_option maxRecDepth 4000 in
theorem sg_C_waitOfTwo_5 {d : Nat} {σ : ST} {a1 : Int32} {a2 : Int32} {a3 : Int32} {a4 : Int32} {post : Option AV → ST → Prop} (K : (((fn_C_chapters σ) ≤ a4) → (post (some (vI a3)) σ)) ∧ (¬ ((fn_C_chapters σ) ≤ a4) → ((vp_in a4 8) ∧ (((((σ.1 16 0 (a4.toNatClampNeg)) = 0) → ((fs_C_minutes σ a1 a4) ∧ (fs_C_minutes σ a2 a4))) ∧ (¬ ((σ.1 16 0 (a4.toNatClampNeg)) = 0) → True)) ∧ (∀ z5 : Int32, z5 = (if (σ.1 16 0 (a4.toNatClampNeg)) = 0 then (a3 + (iabs ((fn_C_minutes σ a1 a4) - (fn_C_minutes σ a2 a4)))) else a3) → (Ev none (d + 3) m_C_waitOfTwo 5 [some (vR 2 0), some (vI a1), some (vI a2), some (vI z5), some (vI (a4 + (1 : Int32)))] [] σ post)))))) : Ev none (d + 3) m_C_waitOfTwo 5 [some (vR 2 0), some (vI a1), some (vI a2), some (vI a3), some (vI a4)] [] σ post := by
  refine ev_iload d_C_waitOfTwo_5 rfl ?_
  refine ev_aload_n d_C_waitOfTwo_7 rfl rfl ?_
  refine ev_callV (as := []) (st := [vI a4]) (k := 2) (i := 0) g_C_chapters ml_C_39 rfl rfl (by decide) (by decide) d_C_waitOfTwo_8 rfl rfl (Nat.le_of_ble_eq_true rfl) rfl (Nat.le_of_ble_eq_true rfl) ?_
  refine f_C_chapters  ?_
  show Ev none (d + 3) m_C_waitOfTwo 11 [some (vR 2 0), some (vI a1), some (vI a2), some (vI a3), some (vI a4)] [vI (fn_C_chapters σ), vI a4] σ post
  refine ev_icmp_ge (tgt := 51) d_C_waitOfTwo_11 rfl (fun h1 => ?_) (fun h1 => ?_)
  · replace K := K.1 h1
    refine ev_iload_n d_C_waitOfTwo_51 rfl rfl ?_
    exact ev_ret (r := some (vI a3)) d_C_waitOfTwo_52 rfl rfl K
  · replace K := K.2 h1
    refine ev_aload_n d_C_waitOfTwo_14 rfl rfl ?_
    refine ev_getR gf_C_17 rfl (by decide) d_C_waitOfTwo_15 ?_
    refine ev_iload d_C_waitOfTwo_18 rfl ?_
    obtain ⟨q2, K⟩ := K
    refine ev_zald rfl (by decide) (by decide) q2 d_C_waitOfTwo_20 ?_
    obtain ⟨KS, K⟩ := K
    obtain ⟨z5, ez5⟩ : ∃ z : Int32, z = (if (σ.1 16 0 (a4.toNatClampNeg)) = 0 then (a3 + (iabs ((fn_C_minutes σ a1 a4) - (fn_C_minutes σ a2 a4)))) else a3) := ⟨_, rfl⟩
    replace K := K z5 ez5
    have JJ : Ev none (d + 3) m_C_waitOfTwo 45 [some (vR 2 0), some (vI a1), some (vI a2), some (vI z5), some (vI a4)] [] σ post := by
      refine ev_iinc (v := a4 + (1 : Int32)) (L' := [some (vR 2 0), some (vI a1), some (vI a2), some (vI z5), some (vI (a4 + (1 : Int32)))]) d_C_waitOfTwo_45 rfl (congrArg (a4 + ·) (by decide)) (by decide) rfl ?_
      refine ev_goto (tgt := 5) d_C_waitOfTwo_48 rfl ?_
      exact K
    clear K
    refine ev_if_ne (tgt := 45) d_C_waitOfTwo_21 rfl (fun h6 => ?_) (fun h6 => ?_)
    · replace KS := KS.2 h6
      rw [if_neg h6] at ez5
      subst ez5
      exact JJ
    · replace KS := KS.1 h6
      rw [if_pos h6] at ez5
      obtain ⟨q3, q4⟩ := KS
      refine ev_iload_n d_C_waitOfTwo_24 rfl rfl ?_
      refine ev_aload_n d_C_waitOfTwo_25 rfl rfl ?_
      refine ev_iload_n d_C_waitOfTwo_26 rfl rfl ?_
      refine ev_iload d_C_waitOfTwo_27 rfl ?_
      refine ev_callV (as := [vI a1, vI a4]) (st := [vI a3]) (k := 2) (i := 0) g_C_minutes ml_C_61 rfl rfl (by decide) (by decide) d_C_waitOfTwo_29 rfl rfl (Nat.le_of_ble_eq_true rfl) rfl (Nat.le_of_ble_eq_true rfl) ?_
      refine f_C_minutes q3 ?_
      show Ev none (d + 3) m_C_waitOfTwo 32 [some (vR 2 0), some (vI a1), some (vI a2), some (vI a3), some (vI a4)] [vI (fn_C_minutes σ a1 a4), vI a3] σ post
      refine ev_aload_n d_C_waitOfTwo_32 rfl rfl ?_
      refine ev_iload_n d_C_waitOfTwo_33 rfl rfl ?_
      refine ev_iload d_C_waitOfTwo_34 rfl ?_
      refine ev_callV (as := [vI a2, vI a4]) (st := [vI (fn_C_minutes σ a1 a4), vI a3]) (k := 2) (i := 0) g_C_minutes ml_C_61 rfl rfl (by decide) (by decide) d_C_waitOfTwo_36 rfl rfl (Nat.le_of_ble_eq_true rfl) rfl (Nat.le_of_ble_eq_true rfl) ?_
      refine f_C_minutes q4 ?_
      show Ev none (d + 3) m_C_waitOfTwo 39 [some (vR 2 0), some (vI a1), some (vI a2), some (vI a3), some (vI a4)] [vI (fn_C_minutes σ a2 a4), vI (fn_C_minutes σ a1 a4), vI a3] σ post
      refine ev_isub d_C_waitOfTwo_39 ?_
      refine ev_mabs ml_C_64 (Nat.le_of_ble_eq_true rfl) d_C_waitOfTwo_40 ?_
      refine ev_iadd d_C_waitOfTwo_43 ?_
      refine ev_istore_n (L' := [some (vR 2 0), some (vI a1), some (vI a2), some (vI (a3 + (iabs ((fn_C_minutes σ a1 a4) - (fn_C_minutes σ a2 a4))))), some (vI a4)]) d_C_waitOfTwo_44 rfl (by decide) rfl ?_
      subst ez5
      exact JJ
set_option maxRecDepth 4000 in
theorem sg_E_readOrStop_0 {d : Nat} {σ : ST} {a1 : Int32} {a2 : Int32} {a3 : Int32} {post : Option AV → ST → Prop} (K : Ev none (d + 2) m_C_together 0 [some (vR 2 0), some (vI a1), some (vI a2), none, none, none] [] σ (fun r s1 => ∃ z2 : Int32, r = some (vI z2) ∧ (((((s1.1 4 0 3) + z2) ≤ a3) → (Ev none (d + 3) m_E_readOrStop 52 [some (vR 4 0), some (vI a1), some (vI a2), none, some (vI z2), some (vI (0 : Int32))] [] (setI (setI s1 4 0 2 ((s1.1 4 0 2) + (1 : Int32))) 4 0 3 (((setI s1 4 0 2 ((s1.1 4 0 2) + (1 : Int32))).1 4 0 3) + z2)) post)) ∧ (¬ (((s1.1 4 0 3) + z2) ≤ a3) → (post none (setI s1 4 0 4 a2)))))) : Ev none (d + 3) m_E_readOrStop 0 [some (vR 4 0), some (vI a1), some (vI a2), some (vI a3), none, none] [] σ post := by
  refine ev_aload_n d_E_readOrStop_0 rfl rfl ?_
  refine ev_getR gf_E_25 rfl (by decide) d_E_readOrStop_1 ?_
  refine ev_iload_n d_E_readOrStop_4 rfl rfl ?_
  refine ev_iload_n d_E_readOrStop_5 rfl rfl ?_
  refine ev_callV (as := [vI a1, vI a2]) (st := []) (k := 2) (i := 0) g_C_together ml_E_42 rfl rfl (by decide) (by decide) d_E_readOrStop_6 rfl rfl (Nat.le_of_ble_eq_true rfl) rfl (Nat.le_of_ble_eq_true rfl) ?_
  refine Ev.mono K ?_
  rintro _ s1 ⟨z2, rfl, K⟩
  show Ev none (d + 3) m_E_readOrStop 9 [some (vR 4 0), some (vI a1), some (vI a2), some (vI a3), none, none] [vI z2] s1 post
  refine ev_istore (L' := [some (vR 4 0), some (vI a1), some (vI a2), some (vI a3), some (vI z2), none]) d_E_readOrStop_9 (by decide) rfl ?_
  refine ev_aload_n d_E_readOrStop_11 rfl rfl ?_
  refine ev_getI gf_E_19 rfl (by decide) d_E_readOrStop_12 ?_
  refine ev_iload d_E_readOrStop_15 rfl ?_
  refine ev_iadd d_E_readOrStop_17 ?_
  refine ev_iload_n d_E_readOrStop_18 rfl rfl ?_
  refine ev_icmp_le (tgt := 28) d_E_readOrStop_19 rfl (fun h3 => ?_) (fun h3 => ?_)
  · replace K := K.1 h3
    refine ev_aload_n d_E_readOrStop_28 rfl rfl ?_
    refine ev_dup d_E_readOrStop_29 rfl ?_
    refine ev_getI gf_E_15 rfl (by decide) d_E_readOrStop_30 ?_
    refine ev_iconst (v := 1) d_E_readOrStop_33 (by decide) ?_
    refine ev_iadd d_E_readOrStop_34 ?_
    refine ev_putI gp_E_15 rfl (by decide) d_E_readOrStop_35 ?_
    refine ev_aload_n d_E_readOrStop_38 rfl rfl ?_
    refine ev_dup d_E_readOrStop_39 rfl ?_
    refine ev_getI gf_E_19 rfl (by decide) d_E_readOrStop_40 ?_
    refine ev_iload d_E_readOrStop_43 rfl ?_
    refine ev_iadd d_E_readOrStop_45 ?_
    refine ev_putI gp_E_19 rfl (by decide) d_E_readOrStop_46 ?_
    refine ev_iconst (v := 0) d_E_readOrStop_49 (by decide) ?_
    refine ev_istore (L' := [some (vR 4 0), some (vI a1), some (vI a2), some (vI a3), some (vI z2), some (vI (0 : Int32))]) d_E_readOrStop_50 (by decide) rfl ?_
    exact Ev.wk (lsub_kp (lsub_kp (lsub_kp (lsub_sk (lsub_kp (lsub_kp (lsub_nil))))))) K
  · replace K := K.2 h3
    refine ev_aload_n d_E_readOrStop_22 rfl rfl ?_
    refine ev_iload_n d_E_readOrStop_23 rfl rfl ?_
    refine ev_putI gp_E_22 rfl (by decide) d_E_readOrStop_24 ?_
    exact ev_ret (r := none) d_E_readOrStop_27 rfl rfl K
set_option maxRecDepth 4000 in
theorem sg_E_readOrStop_52 {d : Nat} {σ : ST} {a1 : Int32} {a2 : Int32} {a4 : Int32} {a5 : Int32} {post : Option AV → ST → Prop} (K : (((6 : Int32) ≤ a5) → (post none σ)) ∧ (¬ ((6 : Int32) ≤ a5) → (((fp_O_holds σ a1 a5) → ((vp_in a5 6) ∧ ((fs_C_minutes σ a5 a2) ∧ ((vp_in a5 6) ∧ (Ev none (d + 3) m_E_readOrStop 52 [some (vR 4 0), some (vI a1), some (vI a2), none, some (vI a4), some (vI (a5 + (1 : Int32)))] [] (setI σ 20 0 (a5.toNatClampNeg) ((σ.1 20 0 (a5.toNatClampNeg)) + (a4 - (fn_C_minutes σ a5 a2)))) post))))) ∧ (¬ (fp_O_holds σ a1 a5) → (Ev none (d + 3) m_E_readOrStop 52 [some (vR 4 0), some (vI a1), some (vI a2), none, some (vI a4), some (vI (a5 + (1 : Int32)))] [] σ post))))) : Ev none (d + 3) m_E_readOrStop 52 [some (vR 4 0), some (vI a1), some (vI a2), none, some (vI a4), some (vI a5)] [] σ post := by
  refine ev_iload d_E_readOrStop_52 rfl ?_
  refine ev_bipush (v := 6) d_E_readOrStop_54 (by decide) ?_
  refine ev_icmp_ge (tgt := 97) d_E_readOrStop_56 rfl (fun h1 => ?_) (fun h1 => ?_)
  · replace K := K.1 h1
    exact ev_ret (r := none) d_E_readOrStop_97 rfl rfl K
  · replace K := K.2 h1
    refine ev_iload_n d_E_readOrStop_59 rfl rfl ?_
    refine ev_iload d_E_readOrStop_60 rfl ?_
    refine ev_callN (as := [vI a1, vI a5]) (st := []) g_O_holds ml_E_46 d_E_readOrStop_62 rfl rfl (Nat.le_of_ble_eq_true rfl) rfl (Nat.le_of_ble_eq_true rfl) ?_
    refine f_O_holds  ?_
    show Ev none (d + 3) m_E_readOrStop 65 [some (vR 4 0), some (vI a1), some (vI a2), none, some (vI a4), some (vI a5)] [vI (bi (fp_O_holds σ a1 a5))] σ post
    refine ev_ifb_eq (tgt := 91) d_E_readOrStop_65 rfl (fun h5 => ?_) (fun h5 => ?_)
    · replace K := K.2 h5
      refine ev_iinc (v := a5 + (1 : Int32)) (L' := [some (vR 4 0), some (vI a1), some (vI a2), none, some (vI a4), some (vI (a5 + (1 : Int32)))]) d_E_readOrStop_91 rfl (congrArg (a5 + ·) (by decide)) (by decide) rfl ?_
      refine ev_goto (tgt := 52) d_E_readOrStop_94 rfl ?_
      exact K
    · replace K := K.1 h5
      refine ev_aload_n d_E_readOrStop_68 rfl rfl ?_
      refine ev_getR gf_E_9 rfl (by decide) d_E_readOrStop_69 ?_
      refine ev_iload d_E_readOrStop_72 rfl ?_
      refine ev_dup2 d_E_readOrStop_74 rfl rfl ?_
      obtain ⟨q6, K⟩ := K
      refine ev_iald rfl (by decide) (by decide) q6 d_E_readOrStop_75 ?_
      refine ev_iload d_E_readOrStop_76 rfl ?_
      refine ev_aload_n d_E_readOrStop_78 rfl rfl ?_
      refine ev_getR gf_E_25 rfl (by decide) d_E_readOrStop_79 ?_
      refine ev_iload d_E_readOrStop_82 rfl ?_
      refine ev_iload_n d_E_readOrStop_84 rfl rfl ?_
      obtain ⟨q7, K⟩ := K
      refine ev_callV (as := [vI a5, vI a2]) (st := [vI a4, vI (σ.1 20 0 (a5.toNatClampNeg)), vI a5, vR 20 0]) (k := 2) (i := 0) g_C_minutes ml_E_50 rfl rfl (by decide) (by decide) d_E_readOrStop_85 rfl rfl (Nat.le_of_ble_eq_true rfl) rfl (Nat.le_of_ble_eq_true rfl) ?_
      refine f_C_minutes q7 ?_
      show Ev none (d + 3) m_E_readOrStop 88 [some (vR 4 0), some (vI a1), some (vI a2), none, some (vI a4), some (vI a5)] [vI (fn_C_minutes σ a5 a2), vI a4, vI (σ.1 20 0 (a5.toNatClampNeg)), vI a5, vR 20 0] σ post
      refine ev_isub d_E_readOrStop_88 ?_
      refine ev_iadd d_E_readOrStop_89 ?_
      obtain ⟨q8, K⟩ := K
      refine ev_iast rfl (by decide) (by decide) q8 d_E_readOrStop_90 ?_
      refine ev_iinc (v := a5 + (1 : Int32)) (L' := [some (vR 4 0), some (vI a1), some (vI a2), none, some (vI a4), some (vI (a5 + (1 : Int32)))]) d_E_readOrStop_91 rfl (congrArg (a5 + ·) (by decide)) (by decide) rfl ?_
      refine ev_goto (tgt := 52) d_E_readOrStop_94 rfl ?_
      exact K
set_option maxRecDepth 4000 in
theorem sg_P_search_0 {d : Nat} {σ : ST} {a1 : Int32} {a2 : Int32} {a3 : Int32} {a4 : Int32} {post : Option AV → ST → Prop} (K : (vp_in (fn_C_chapters (setI (setI (setI (setI (setI σ 5 0 6 a3) 5 0 7 a4) 5 0 8 (-1 : Int32)) 5 0 9 (0 : Int32)) 5 0 10 (0 : Int32))) 9) ∧ (Ev none (d + 3) m_P_search 50 [some (vR 5 0), some (vI a1), some (vI a2), none, none, some (vI ((fn_C_chapters (setI (setI (setI (setI (setI (setI σ 5 0 6 a3) 5 0 7 a4) 5 0 8 (-1 : Int32)) 5 0 9 (0 : Int32)) 5 0 10 (0 : Int32)) 25 0 ((fn_C_chapters (setI (setI (setI (setI (setI σ 5 0 6 a3) 5 0 7 a4) 5 0 8 (-1 : Int32)) 5 0 9 (0 : Int32)) 5 0 10 (0 : Int32))).toNatClampNeg) (0 : Int32))) - (1 : Int32)))] [] (setI (setI (setI (setI (setI (setI σ 5 0 6 a3) 5 0 7 a4) 5 0 8 (-1 : Int32)) 5 0 9 (0 : Int32)) 5 0 10 (0 : Int32)) 25 0 ((fn_C_chapters (setI (setI (setI (setI (setI σ 5 0 6 a3) 5 0 7 a4) 5 0 8 (-1 : Int32)) 5 0 9 (0 : Int32)) 5 0 10 (0 : Int32))).toNatClampNeg) (0 : Int32)) post)) : Ev none (d + 3) m_P_search 0 [some (vR 5 0), some (vI a1), some (vI a2), some (vI a3), some (vI a4), none] [] σ post := by
  refine ev_aload_n d_P_search_0 rfl rfl ?_
  refine ev_iload_n d_P_search_1 rfl rfl ?_
  refine ev_putI gp_P_27 rfl (by decide) d_P_search_2 ?_
  refine ev_aload_n d_P_search_5 rfl rfl ?_
  refine ev_iload d_P_search_6 rfl ?_
  refine ev_putI gp_P_31 rfl (by decide) d_P_search_8 ?_
  refine ev_aload_n d_P_search_11 rfl rfl ?_
  refine ev_iconst (v := -1) d_P_search_12 (by decide) ?_
  refine ev_putI gp_P_34 rfl (by decide) d_P_search_13 ?_
  refine ev_aload_n d_P_search_16 rfl rfl ?_
  refine ev_iconst (v := 0) d_P_search_17 (by decide) ?_
  refine ev_putI gp_P_37 rfl (by decide) d_P_search_18 ?_
  refine ev_aload_n d_P_search_21 rfl rfl ?_
  refine ev_iconst (v := 0) d_P_search_22 (by decide) ?_
  refine ev_putI gp_P_40 rfl (by decide) d_P_search_23 ?_
  refine ev_aload_n d_P_search_26 rfl rfl ?_
  refine ev_getR gf_P_24 rfl (by decide) d_P_search_27 ?_
  refine ev_aload_n d_P_search_30 rfl rfl ?_
  refine ev_getR gf_P_43 rfl (by decide) d_P_search_31 ?_
  refine ev_callV (as := []) (st := [vR 25 0]) (k := 2) (i := 0) g_C_chapters ml_P_47 rfl rfl (by decide) (by decide) d_P_search_34 rfl rfl (Nat.le_of_ble_eq_true rfl) rfl (Nat.le_of_ble_eq_true rfl) ?_
  refine f_C_chapters  ?_
  show Ev none (d + 3) m_P_search 37 [some (vR 5 0), some (vI a1), some (vI a2), some (vI a3), some (vI a4), none] [vI (fn_C_chapters (setI (setI (setI (setI (setI σ 5 0 6 a3) 5 0 7 a4) 5 0 8 (-1 : Int32)) 5 0 9 (0 : Int32)) 5 0 10 (0 : Int32))), vR 25 0] (setI (setI (setI (setI (setI σ 5 0 6 a3) 5 0 7 a4) 5 0 8 (-1 : Int32)) 5 0 9 (0 : Int32)) 5 0 10 (0 : Int32)) post
  refine ev_iconst (v := 0) d_P_search_37 (by decide) ?_
  obtain ⟨q1, K⟩ := K
  refine ev_iast rfl (by decide) (by decide) q1 d_P_search_38 ?_
  refine ev_aload_n d_P_search_39 rfl rfl ?_
  refine ev_getR gf_P_43 rfl (by decide) d_P_search_40 ?_
  refine ev_callV (as := []) (st := []) (k := 2) (i := 0) g_C_chapters ml_P_47 rfl rfl (by decide) (by decide) d_P_search_43 rfl rfl (Nat.le_of_ble_eq_true rfl) rfl (Nat.le_of_ble_eq_true rfl) ?_
  refine f_C_chapters  ?_
  show Ev none (d + 3) m_P_search 46 [some (vR 5 0), some (vI a1), some (vI a2), some (vI a3), some (vI a4), none] [vI (fn_C_chapters (setI (setI (setI (setI (setI (setI σ 5 0 6 a3) 5 0 7 a4) 5 0 8 (-1 : Int32)) 5 0 9 (0 : Int32)) 5 0 10 (0 : Int32)) 25 0 ((fn_C_chapters (setI (setI (setI (setI (setI σ 5 0 6 a3) 5 0 7 a4) 5 0 8 (-1 : Int32)) 5 0 9 (0 : Int32)) 5 0 10 (0 : Int32))).toNatClampNeg) (0 : Int32)))] (setI (setI (setI (setI (setI (setI σ 5 0 6 a3) 5 0 7 a4) 5 0 8 (-1 : Int32)) 5 0 9 (0 : Int32)) 5 0 10 (0 : Int32)) 25 0 ((fn_C_chapters (setI (setI (setI (setI (setI σ 5 0 6 a3) 5 0 7 a4) 5 0 8 (-1 : Int32)) 5 0 9 (0 : Int32)) 5 0 10 (0 : Int32))).toNatClampNeg) (0 : Int32)) post
  refine ev_iconst (v := 1) d_P_search_46 (by decide) ?_
  refine ev_isub d_P_search_47 ?_
  refine ev_istore (L' := [some (vR 5 0), some (vI a1), some (vI a2), some (vI a3), some (vI a4), some (vI ((fn_C_chapters (setI (setI (setI (setI (setI (setI σ 5 0 6 a3) 5 0 7 a4) 5 0 8 (-1 : Int32)) 5 0 9 (0 : Int32)) 5 0 10 (0 : Int32)) 25 0 ((fn_C_chapters (setI (setI (setI (setI (setI σ 5 0 6 a3) 5 0 7 a4) 5 0 8 (-1 : Int32)) 5 0 9 (0 : Int32)) 5 0 10 (0 : Int32))).toNatClampNeg) (0 : Int32))) - (1 : Int32)))]) d_P_search_48 (by decide) rfl ?_
  exact Ev.wk (lsub_kp (lsub_kp (lsub_kp (lsub_sk (lsub_sk (lsub_kp (lsub_nil))))))) K
set_option maxRecDepth 4000 in
theorem sg_P_search_50 {d : Nat} {σ : ST} {a1 : Int32} {a2 : Int32} {a5 : Int32} {post : Option AV → ST → Prop} (K : ((a5 < 0) → (Ev none (d + 2) m_P_choose 0 [some (vR 5 0), some (vI (0 : Int32)), some (vI (0 : Int32)), some (vI (0 : Int32)), some (vI (0 : Int32)), some (vI (0 : Int32)), some (vI (0 : Int32)), none, none, none] [] σ (fun r s4 => r = none ∧ (post none s4)))) ∧ (¬ (a5 < 0) → ((fs_C_minutes σ a1 a5) ∧ ((vp_in a5 8) ∧ ((fs_C_minutes (setI σ 21 0 (a5.toNatClampNeg) (fn_C_minutes σ a1 a5)) a2 a5) ∧ ((vp_in a5 8) ∧ ((vp_in (a5 + (1 : Int32)) 9) ∧ ((fs_C_isSkipped (setI (setI σ 21 0 (a5.toNatClampNeg) (fn_C_minutes σ a1 a5)) 22 0 (a5.toNatClampNeg) (fn_C_minutes (setI σ 21 0 (a5.toNatClampNeg) (fn_C_minutes σ a1 a5)) a2 a5)) a5) ∧ (((((fn_C_isSkipped (setI (setI σ 21 0 (a5.toNatClampNeg) (fn_C_minutes σ a1 a5)) 22 0 (a5.toNatClampNeg) (fn_C_minutes (setI σ 21 0 (a5.toNatClampNeg) (fn_C_minutes σ a1 a5)) a2 a5)) a5) = 0) → (fs_C_linesOf (setI (setI σ 21 0 (a5.toNatClampNeg) (fn_C_minutes σ a1 a5)) 22 0 (a5.toNatClampNeg) (fn_C_minutes (setI σ 21 0 (a5.toNatClampNeg) (fn_C_minutes σ a1 a5)) a2 a5)) a5)) ∧ (¬ ((fn_C_isSkipped (setI (setI σ 21 0 (a5.toNatClampNeg) (fn_C_minutes σ a1 a5)) 22 0 (a5.toNatClampNeg) (fn_C_minutes (setI σ 21 0 (a5.toNatClampNeg) (fn_C_minutes σ a1 a5)) a2 a5)) a5) = 0) → True)) ∧ (∀ z12 : Int32, z12 = (if (fn_C_isSkipped (setI (setI σ 21 0 (a5.toNatClampNeg) (fn_C_minutes σ a1 a5)) 22 0 (a5.toNatClampNeg) (fn_C_minutes (setI σ 21 0 (a5.toNatClampNeg) (fn_C_minutes σ a1 a5)) a2 a5)) a5) = 0 then (fn_C_linesOf (setI (setI σ 21 0 (a5.toNatClampNeg) (fn_C_minutes σ a1 a5)) 22 0 (a5.toNatClampNeg) (fn_C_minutes (setI σ 21 0 (a5.toNatClampNeg) (fn_C_minutes σ a1 a5)) a2 a5)) a5) else (0 : Int32)) → ((vp_in a5 9) ∧ (Ev none (d + 3) m_P_search 50 [some (vR 5 0), some (vI a1), some (vI a2), none, none, some (vI (a5 + (-1 : Int32)))] [] (setI (setI (setI σ 21 0 (a5.toNatClampNeg) (fn_C_minutes σ a1 a5)) 22 0 (a5.toNatClampNeg) (fn_C_minutes (setI σ 21 0 (a5.toNatClampNeg) (fn_C_minutes σ a1 a5)) a2 a5)) 25 0 (a5.toNatClampNeg) (((setI (setI σ 21 0 (a5.toNatClampNeg) (fn_C_minutes σ a1 a5)) 22 0 (a5.toNatClampNeg) (fn_C_minutes (setI σ 21 0 (a5.toNatClampNeg) (fn_C_minutes σ a1 a5)) a2 a5)).1 25 0 ((a5 + (1 : Int32)).toNatClampNeg)) + z12)) post)))))))))))) : Ev none (d + 3) m_P_search 50 [some (vR 5 0), some (vI a1), some (vI a2), none, none, some (vI a5)] [] σ post := by
  refine ev_iload d_P_search_50 rfl ?_
  refine ev_if_lt (tgt := 137) d_P_search_52 rfl (fun h3 => ?_) (fun h3 => ?_)
  · replace K := K.1 h3
    refine ev_aload_n d_P_search_137 rfl rfl ?_
    refine ev_iconst (v := 0) d_P_search_138 (by decide) ?_
    refine ev_iconst (v := 0) d_P_search_139 (by decide) ?_
    refine ev_iconst (v := 0) d_P_search_140 (by decide) ?_
    refine ev_iconst (v := 0) d_P_search_141 (by decide) ?_
    refine ev_iconst (v := 0) d_P_search_142 (by decide) ?_
    refine ev_iconst (v := 0) d_P_search_143 (by decide) ?_
    refine ev_callV (as := [vI (0 : Int32), vI (0 : Int32), vI (0 : Int32), vI (0 : Int32), vI (0 : Int32), vI (0 : Int32)]) (st := []) (k := 5) (i := 0) g_P_choose ml_P_65 rfl rfl (by decide) (by decide) d_P_search_144 rfl rfl (Nat.le_of_ble_eq_true rfl) rfl (Nat.le_of_ble_eq_true rfl) ?_
    refine Ev.mono K ?_
    rintro _ s4 ⟨rfl, K⟩
    show Ev none (d + 3) m_P_search 147 [some (vR 5 0), some (vI a1), some (vI a2), none, none, some (vI a5)] [] s4 post
    exact ev_ret (r := none) d_P_search_147 rfl rfl K
  · replace K := K.2 h3
    refine ev_aload_n d_P_search_55 rfl rfl ?_
    refine ev_getR gf_P_9 rfl (by decide) d_P_search_56 ?_
    refine ev_iload d_P_search_59 rfl ?_
    refine ev_aload_n d_P_search_61 rfl rfl ?_
    refine ev_getR gf_P_43 rfl (by decide) d_P_search_62 ?_
    refine ev_iload_n d_P_search_65 rfl rfl ?_
    refine ev_iload d_P_search_66 rfl ?_
    obtain ⟨q5, K⟩ := K
    refine ev_callV (as := [vI a1, vI a5]) (st := [vI a5, vR 21 0]) (k := 2) (i := 0) g_C_minutes ml_P_53 rfl rfl (by decide) (by decide) d_P_search_68 rfl rfl (Nat.le_of_ble_eq_true rfl) rfl (Nat.le_of_ble_eq_true rfl) ?_
    refine f_C_minutes q5 ?_
    show Ev none (d + 3) m_P_search 71 [some (vR 5 0), some (vI a1), some (vI a2), none, none, some (vI a5)] [vI (fn_C_minutes σ a1 a5), vI a5, vR 21 0] σ post
    obtain ⟨q6, K⟩ := K
    refine ev_iast rfl (by decide) (by decide) q6 d_P_search_71 ?_
    refine ev_aload_n d_P_search_72 rfl rfl ?_
    refine ev_getR gf_P_15 rfl (by decide) d_P_search_73 ?_
    refine ev_iload d_P_search_76 rfl ?_
    refine ev_aload_n d_P_search_78 rfl rfl ?_
    refine ev_getR gf_P_43 rfl (by decide) d_P_search_79 ?_
    refine ev_iload_n d_P_search_82 rfl rfl ?_
    refine ev_iload d_P_search_83 rfl ?_
    obtain ⟨q7, K⟩ := K
    refine ev_callV (as := [vI a2, vI a5]) (st := [vI a5, vR 22 0]) (k := 2) (i := 0) g_C_minutes ml_P_53 rfl rfl (by decide) (by decide) d_P_search_85 rfl rfl (Nat.le_of_ble_eq_true rfl) rfl (Nat.le_of_ble_eq_true rfl) ?_
    refine f_C_minutes q7 ?_
    show Ev none (d + 3) m_P_search 88 [some (vR 5 0), some (vI a1), some (vI a2), none, none, some (vI a5)] [vI (fn_C_minutes (setI σ 21 0 (a5.toNatClampNeg) (fn_C_minutes σ a1 a5)) a2 a5), vI a5, vR 22 0] (setI σ 21 0 (a5.toNatClampNeg) (fn_C_minutes σ a1 a5)) post
    obtain ⟨q8, K⟩ := K
    refine ev_iast rfl (by decide) (by decide) q8 d_P_search_88 ?_
    refine ev_aload_n d_P_search_89 rfl rfl ?_
    refine ev_getR gf_P_24 rfl (by decide) d_P_search_90 ?_
    refine ev_iload d_P_search_93 rfl ?_
    refine ev_aload_n d_P_search_95 rfl rfl ?_
    refine ev_getR gf_P_24 rfl (by decide) d_P_search_96 ?_
    refine ev_iload d_P_search_99 rfl ?_
    refine ev_iconst (v := 1) d_P_search_101 (by decide) ?_
    refine ev_iadd d_P_search_102 ?_
    obtain ⟨q9, K⟩ := K
    refine ev_iald rfl (by decide) (by decide) q9 d_P_search_103 ?_
    refine ev_aload_n d_P_search_104 rfl rfl ?_
    refine ev_getR gf_P_43 rfl (by decide) d_P_search_105 ?_
    refine ev_iload d_P_search_108 rfl ?_
    obtain ⟨q10, K⟩ := K
    refine ev_callV (as := [vI a5]) (st := [vI ((setI (setI σ 21 0 (a5.toNatClampNeg) (fn_C_minutes σ a1 a5)) 22 0 (a5.toNatClampNeg) (fn_C_minutes (setI σ 21 0 (a5.toNatClampNeg) (fn_C_minutes σ a1 a5)) a2 a5)).1 25 0 ((a5 + (1 : Int32)).toNatClampNeg)), vI a5, vR 25 0]) (k := 2) (i := 0) g_C_isSkipped ml_P_57 rfl rfl (by decide) (by decide) d_P_search_110 rfl rfl (Nat.le_of_ble_eq_true rfl) rfl (Nat.le_of_ble_eq_true rfl) ?_
    refine f_C_isSkipped q10 ?_
    show Ev none (d + 3) m_P_search 113 [some (vR 5 0), some (vI a1), some (vI a2), none, none, some (vI a5)] [vI (fn_C_isSkipped (setI (setI σ 21 0 (a5.toNatClampNeg) (fn_C_minutes σ a1 a5)) 22 0 (a5.toNatClampNeg) (fn_C_minutes (setI σ 21 0 (a5.toNatClampNeg) (fn_C_minutes σ a1 a5)) a2 a5)) a5), vI ((setI (setI σ 21 0 (a5.toNatClampNeg) (fn_C_minutes σ a1 a5)) 22 0 (a5.toNatClampNeg) (fn_C_minutes (setI σ 21 0 (a5.toNatClampNeg) (fn_C_minutes σ a1 a5)) a2 a5)).1 25 0 ((a5 + (1 : Int32)).toNatClampNeg)), vI a5, vR 25 0] (setI (setI σ 21 0 (a5.toNatClampNeg) (fn_C_minutes σ a1 a5)) 22 0 (a5.toNatClampNeg) (fn_C_minutes (setI σ 21 0 (a5.toNatClampNeg) (fn_C_minutes σ a1 a5)) a2 a5)) post
    obtain ⟨KS, K⟩ := K
    obtain ⟨z12, ez12⟩ : ∃ z : Int32, z = (if (fn_C_isSkipped (setI (setI σ 21 0 (a5.toNatClampNeg) (fn_C_minutes σ a1 a5)) 22 0 (a5.toNatClampNeg) (fn_C_minutes (setI σ 21 0 (a5.toNatClampNeg) (fn_C_minutes σ a1 a5)) a2 a5)) a5) = 0 then (fn_C_linesOf (setI (setI σ 21 0 (a5.toNatClampNeg) (fn_C_minutes σ a1 a5)) 22 0 (a5.toNatClampNeg) (fn_C_minutes (setI σ 21 0 (a5.toNatClampNeg) (fn_C_minutes σ a1 a5)) a2 a5)) a5) else (0 : Int32)) := ⟨_, rfl⟩
    replace K := K z12 ez12
    have JJ : Ev none (d + 3) m_P_search 129 [some (vR 5 0), some (vI a1), some (vI a2), none, none, some (vI a5)] [vI z12, vI ((setI (setI σ 21 0 (a5.toNatClampNeg) (fn_C_minutes σ a1 a5)) 22 0 (a5.toNatClampNeg) (fn_C_minutes (setI σ 21 0 (a5.toNatClampNeg) (fn_C_minutes σ a1 a5)) a2 a5)).1 25 0 ((a5 + (1 : Int32)).toNatClampNeg)), vI a5, vR 25 0] (setI (setI σ 21 0 (a5.toNatClampNeg) (fn_C_minutes σ a1 a5)) 22 0 (a5.toNatClampNeg) (fn_C_minutes (setI σ 21 0 (a5.toNatClampNeg) (fn_C_minutes σ a1 a5)) a2 a5)) post := by
      refine ev_iadd d_P_search_129 ?_
      obtain ⟨q13, K⟩ := K
      refine ev_iast rfl (by decide) (by decide) q13 d_P_search_130 ?_
      refine ev_iinc (v := a5 + (-1 : Int32)) (L' := [some (vR 5 0), some (vI a1), some (vI a2), none, none, some (vI (a5 + (-1 : Int32)))]) d_P_search_131 rfl (congrArg (a5 + ·) (by decide)) (by decide) rfl ?_
      refine ev_goto (tgt := 50) d_P_search_134 rfl ?_
      exact K
    clear K
    refine ev_if_eq (tgt := 120) d_P_search_113 rfl (fun h14 => ?_) (fun h14 => ?_)
    · replace KS := KS.1 h14
      rw [if_pos h14] at ez12
      have q11 := KS
      refine ev_aload_n d_P_search_120 rfl rfl ?_
      refine ev_getR gf_P_43 rfl (by decide) d_P_search_121 ?_
      refine ev_iload d_P_search_124 rfl ?_
      refine ev_callV (as := [vI a5]) (st := [vI ((setI (setI σ 21 0 (a5.toNatClampNeg) (fn_C_minutes σ a1 a5)) 22 0 (a5.toNatClampNeg) (fn_C_minutes (setI σ 21 0 (a5.toNatClampNeg) (fn_C_minutes σ a1 a5)) a2 a5)).1 25 0 ((a5 + (1 : Int32)).toNatClampNeg)), vI a5, vR 25 0]) (k := 2) (i := 0) g_C_linesOf ml_P_61 rfl rfl (by decide) (by decide) d_P_search_126 rfl rfl (Nat.le_of_ble_eq_true rfl) rfl (Nat.le_of_ble_eq_true rfl) ?_
      refine f_C_linesOf q11 ?_
      show Ev none (d + 3) m_P_search 129 [some (vR 5 0), some (vI a1), some (vI a2), none, none, some (vI a5)] [vI (fn_C_linesOf (setI (setI σ 21 0 (a5.toNatClampNeg) (fn_C_minutes σ a1 a5)) 22 0 (a5.toNatClampNeg) (fn_C_minutes (setI σ 21 0 (a5.toNatClampNeg) (fn_C_minutes σ a1 a5)) a2 a5)) a5), vI ((setI (setI σ 21 0 (a5.toNatClampNeg) (fn_C_minutes σ a1 a5)) 22 0 (a5.toNatClampNeg) (fn_C_minutes (setI σ 21 0 (a5.toNatClampNeg) (fn_C_minutes σ a1 a5)) a2 a5)).1 25 0 ((a5 + (1 : Int32)).toNatClampNeg)), vI a5, vR 25 0] (setI (setI σ 21 0 (a5.toNatClampNeg) (fn_C_minutes σ a1 a5)) 22 0 (a5.toNatClampNeg) (fn_C_minutes (setI σ 21 0 (a5.toNatClampNeg) (fn_C_minutes σ a1 a5)) a2 a5)) post
      subst ez12
      exact JJ
    · replace KS := KS.2 h14
      rw [if_neg h14] at ez12
      refine ev_iconst (v := 0) d_P_search_116 (by decide) ?_
      refine ev_goto (tgt := 129) d_P_search_117 rfl ?_
      subst ez12
      exact JJ
set_option maxRecDepth 4000 in
theorem sg_S_gainOf_0 {d : Nat} {σ : ST} {a1 : Int32} {a2 : Int32} {a3 : Int32} {a4 : Int32} {post : Option AV → ST → Prop} (K : (fs_C_person σ a1) ∧ (Ev none (d + 3) m_S_gainOf 21 [some (vR 6 0), some (vI a1), some (vI a2), some (vI a3), some (vI a4), some (vI ((fn_R_joy σ (fx_C_person σ a1)) * a3)), some (vI (0 : Int32)), some (vI (0 : Int32)), none] [] σ post)) : Ev none (d + 3) m_S_gainOf 0 [some (vR 6 0), some (vI a1), some (vI a2), some (vI a3), some (vI a4), none, none, none, none] [] σ post := by
  refine ev_aload_n d_S_gainOf_0 rfl rfl ?_
  refine ev_getR gf_S_25 rfl (by decide) d_S_gainOf_1 ?_
  refine ev_iload_n d_S_gainOf_4 rfl rfl ?_
  obtain ⟨q1, K⟩ := K
  refine ev_callV (as := [vI a1]) (st := []) (k := 2) (i := 0) g_C_person ml_S_29 rfl rfl (by decide) (by decide) d_S_gainOf_5 rfl rfl (Nat.le_of_ble_eq_true rfl) rfl (Nat.le_of_ble_eq_true rfl) ?_
  refine f_C_person q1 ?_
  show Ev none (d + 3) m_S_gainOf 8 [some (vR 6 0), some (vI a1), some (vI a2), some (vI a3), some (vI a4), none, none, none, none] [vR 3 (fx_C_person σ a1)] σ post
  refine ev_callV (as := []) (st := []) (k := 3) (i := (fx_C_person σ a1)) g_R_joy ml_S_35 rfl rfl (by decide) (fb_C_person q1) d_S_gainOf_8 rfl rfl (Nat.le_of_ble_eq_true rfl) rfl (Nat.le_of_ble_eq_true rfl) ?_
  refine f_R_joy (fb_C_person q1) ?_
  show Ev none (d + 3) m_S_gainOf 11 [some (vR 6 0), some (vI a1), some (vI a2), some (vI a3), some (vI a4), none, none, none, none] [vI (fn_R_joy σ (fx_C_person σ a1))] σ post
  refine ev_iload_n d_S_gainOf_11 rfl rfl ?_
  refine ev_imul d_S_gainOf_12 ?_
  refine ev_istore (L' := [some (vR 6 0), some (vI a1), some (vI a2), some (vI a3), some (vI a4), some (vI ((fn_R_joy σ (fx_C_person σ a1)) * a3)), none, none, none]) d_S_gainOf_13 (by decide) rfl ?_
  refine ev_iconst (v := 0) d_S_gainOf_15 (by decide) ?_
  refine ev_istore (L' := [some (vR 6 0), some (vI a1), some (vI a2), some (vI a3), some (vI a4), some (vI ((fn_R_joy σ (fx_C_person σ a1)) * a3)), some (vI (0 : Int32)), none, none]) d_S_gainOf_16 (by decide) rfl ?_
  refine ev_iconst (v := 0) d_S_gainOf_18 (by decide) ?_
  refine ev_istore (L' := [some (vR 6 0), some (vI a1), some (vI a2), some (vI a3), some (vI a4), some (vI ((fn_R_joy σ (fx_C_person σ a1)) * a3)), some (vI (0 : Int32)), some (vI (0 : Int32)), none]) d_S_gainOf_19 (by decide) rfl ?_
  exact K
set_option maxRecDepth 4000 in
theorem sg_S_gainOf_21 {d : Nat} {σ : ST} {a1 : Int32} {a2 : Int32} {a3 : Int32} {a4 : Int32} {a5 : Int32} {a6 : Int32} {a7 : Int32} {post : Option AV → ST → Prop} (K : (((fn_C_chapters σ) ≤ a7) → (post (some (vI a6)) σ)) ∧ (¬ ((fn_C_chapters σ) ≤ a7) → ((fs_C_isSkipped σ a7) ∧ (((((fn_C_isSkipped σ a7) = 0) → ((fs_C_minutes σ a2 a7) ∧ (fs_C_minutes σ a1 a7))) ∧ (¬ ((fn_C_isSkipped σ a7) = 0) → True)) ∧ (∀ z5 : Int32, z5 = (if (fn_C_isSkipped σ a7) = 0 then (a6 + (a5 - (imax (0 : Int32) ((((fn_C_minutes σ a2 a7) + a4) - (fn_C_minutes σ a1 a7)) - a3)))) else a6) → (Ev none (d + 3) m_S_gainOf 21 [some (vR 6 0), some (vI a1), some (vI a2), some (vI a3), some (vI a4), some (vI a5), some (vI z5), some (vI (a7 + (1 : Int32))), none] [] σ post)))))) : Ev none (d + 3) m_S_gainOf 21 [some (vR 6 0), some (vI a1), some (vI a2), some (vI a3), some (vI a4), some (vI a5), some (vI a6), some (vI a7), none] [] σ post := by
  refine ev_iload d_S_gainOf_21 rfl ?_
  refine ev_aload_n d_S_gainOf_23 rfl rfl ?_
  refine ev_getR gf_S_25 rfl (by decide) d_S_gainOf_24 ?_
  refine ev_callV (as := []) (st := [vI a7]) (k := 2) (i := 0) g_C_chapters ml_S_41 rfl rfl (by decide) (by decide) d_S_gainOf_27 rfl rfl (Nat.le_of_ble_eq_true rfl) rfl (Nat.le_of_ble_eq_true rfl) ?_
  refine f_C_chapters  ?_
  show Ev none (d + 3) m_S_gainOf 30 [some (vR 6 0), some (vI a1), some (vI a2), some (vI a3), some (vI a4), some (vI a5), some (vI a6), some (vI a7), none] [vI (fn_C_chapters σ), vI a7] σ post
  refine ev_icmp_ge (tgt := 93) d_S_gainOf_30 rfl (fun h1 => ?_) (fun h1 => ?_)
  · replace K := K.1 h1
    refine ev_iload d_S_gainOf_93 rfl ?_
    exact ev_ret (r := some (vI a6)) d_S_gainOf_95 rfl rfl K
  · replace K := K.2 h1
    refine ev_aload_n d_S_gainOf_33 rfl rfl ?_
    refine ev_getR gf_S_25 rfl (by decide) d_S_gainOf_34 ?_
    refine ev_iload d_S_gainOf_37 rfl ?_
    obtain ⟨q2, K⟩ := K
    refine ev_callV (as := [vI a7]) (st := []) (k := 2) (i := 0) g_C_isSkipped ml_S_44 rfl rfl (by decide) (by decide) d_S_gainOf_39 rfl rfl (Nat.le_of_ble_eq_true rfl) rfl (Nat.le_of_ble_eq_true rfl) ?_
    refine f_C_isSkipped q2 ?_
    show Ev none (d + 3) m_S_gainOf 42 [some (vR 6 0), some (vI a1), some (vI a2), some (vI a3), some (vI a4), some (vI a5), some (vI a6), some (vI a7), none] [vI (fn_C_isSkipped σ a7)] σ post
    obtain ⟨KS, K⟩ := K
    obtain ⟨z5, ez5⟩ : ∃ z : Int32, z = (if (fn_C_isSkipped σ a7) = 0 then (a6 + (a5 - (imax (0 : Int32) ((((fn_C_minutes σ a2 a7) + a4) - (fn_C_minutes σ a1 a7)) - a3)))) else a6) := ⟨_, rfl⟩
    replace K := K z5 ez5
    have JJ : Ev none (d + 3) m_S_gainOf 87 [some (vR 6 0), some (vI a1), some (vI a2), some (vI a3), some (vI a4), some (vI a5), some (vI z5), some (vI a7), none] [] σ post := by
      refine ev_iinc (v := a7 + (1 : Int32)) (L' := [some (vR 6 0), some (vI a1), some (vI a2), some (vI a3), some (vI a4), some (vI a5), some (vI z5), some (vI (a7 + (1 : Int32))), none]) d_S_gainOf_87 rfl (congrArg (a7 + ·) (by decide)) (by decide) rfl ?_
      refine ev_goto (tgt := 21) d_S_gainOf_90 rfl ?_
      exact K
    clear K
    refine ev_if_ne (tgt := 87) d_S_gainOf_42 rfl (fun h6 => ?_) (fun h6 => ?_)
    · replace KS := KS.2 h6
      rw [if_neg h6] at ez5
      subst ez5
      exact JJ
    · replace KS := KS.1 h6
      rw [if_pos h6] at ez5
      obtain ⟨q3, q4⟩ := KS
      refine ev_aload_n d_S_gainOf_45 rfl rfl ?_
      refine ev_getR gf_S_25 rfl (by decide) d_S_gainOf_46 ?_
      refine ev_iload_n d_S_gainOf_49 rfl rfl ?_
      refine ev_iload d_S_gainOf_50 rfl ?_
      refine ev_callV (as := [vI a2, vI a7]) (st := []) (k := 2) (i := 0) g_C_minutes ml_S_48 rfl rfl (by decide) (by decide) d_S_gainOf_52 rfl rfl (Nat.le_of_ble_eq_true rfl) rfl (Nat.le_of_ble_eq_true rfl) ?_
      refine f_C_minutes q3 ?_
      show Ev none (d + 3) m_S_gainOf 55 [some (vR 6 0), some (vI a1), some (vI a2), some (vI a3), some (vI a4), some (vI a5), some (vI a6), some (vI a7), none] [vI (fn_C_minutes σ a2 a7)] σ post
      refine ev_iload d_S_gainOf_55 rfl ?_
      refine ev_iadd d_S_gainOf_57 ?_
      refine ev_aload_n d_S_gainOf_58 rfl rfl ?_
      refine ev_getR gf_S_25 rfl (by decide) d_S_gainOf_59 ?_
      refine ev_iload_n d_S_gainOf_62 rfl rfl ?_
      refine ev_iload d_S_gainOf_63 rfl ?_
      refine ev_callV (as := [vI a1, vI a7]) (st := [vI ((fn_C_minutes σ a2 a7) + a4)]) (k := 2) (i := 0) g_C_minutes ml_S_48 rfl rfl (by decide) (by decide) d_S_gainOf_65 rfl rfl (Nat.le_of_ble_eq_true rfl) rfl (Nat.le_of_ble_eq_true rfl) ?_
      refine f_C_minutes q4 ?_
      show Ev none (d + 3) m_S_gainOf 68 [some (vR 6 0), some (vI a1), some (vI a2), some (vI a3), some (vI a4), some (vI a5), some (vI a6), some (vI a7), none] [vI (fn_C_minutes σ a1 a7), vI ((fn_C_minutes σ a2 a7) + a4)] σ post
      refine ev_isub d_S_gainOf_68 ?_
      refine ev_iload_n d_S_gainOf_69 rfl rfl ?_
      refine ev_isub d_S_gainOf_70 ?_
      refine ev_istore (L' := [some (vR 6 0), some (vI a1), some (vI a2), some (vI a3), some (vI a4), some (vI a5), some (vI a6), some (vI a7), some (vI ((((fn_C_minutes σ a2 a7) + a4) - (fn_C_minutes σ a1 a7)) - a3))]) d_S_gainOf_71 (by decide) rfl ?_
      refine ev_iload d_S_gainOf_73 rfl ?_
      refine ev_iload d_S_gainOf_75 rfl ?_
      refine ev_iconst (v := 0) d_S_gainOf_77 (by decide) ?_
      refine ev_iload d_S_gainOf_78 rfl ?_
      refine ev_mmax ml_S_52 (Nat.le_of_ble_eq_true rfl) d_S_gainOf_80 ?_
      refine ev_isub d_S_gainOf_83 ?_
      refine ev_iadd d_S_gainOf_84 ?_
      refine ev_istore (L' := [some (vR 6 0), some (vI a1), some (vI a2), some (vI a3), some (vI a4), some (vI a5), some (vI (a6 + (a5 - (imax (0 : Int32) ((((fn_C_minutes σ a2 a7) + a4) - (fn_C_minutes σ a1 a7)) - a3))))), some (vI a7), some (vI ((((fn_C_minutes σ a2 a7) + a4) - (fn_C_minutes σ a1 a7)) - a3))]) d_S_gainOf_85 (by decide) rfl ?_
      subst ez5
      exact Ev.wk (lsub_kp (lsub_kp (lsub_kp (lsub_kp (lsub_kp (lsub_kp (lsub_kp (lsub_kp (lsub_sk (lsub_nil)))))))))) JJ
set_option maxRecDepth 4000 in
theorem sg_U_countUnlike_0 {d : Nat} {σ : ST}  {post : Option AV → ST → Prop} (K : Ev none (d + 3) m_U_countUnlike 4 [some (vR 8 0), some (vI (0 : Int32)), some (vI (0 : Int32))] [] σ post) : Ev none (d + 3) m_U_countUnlike 0 [some (vR 8 0), none, none] [] σ post := by
  refine ev_iconst (v := 0) d_U_countUnlike_0 (by decide) ?_
  refine ev_istore_n (L' := [some (vR 8 0), some (vI (0 : Int32)), none]) d_U_countUnlike_1 rfl (by decide) rfl ?_
  refine ev_iconst (v := 0) d_U_countUnlike_2 (by decide) ?_
  refine ev_istore_n (L' := [some (vR 8 0), some (vI (0 : Int32)), some (vI (0 : Int32))]) d_U_countUnlike_3 rfl (by decide) rfl ?_
  exact K
set_option maxRecDepth 4000 in
theorem sg_U_countUnlike_4 {d : Nat} {σ : ST} {a1 : Int32} {a2 : Int32} {post : Option AV → ST → Prop} (K : (((σ.1 8 0 4) ≤ a2) → (post (some (vI a1)) σ)) ∧ (¬ ((σ.1 8 0 4) ≤ a2) → ((fs_U_isThere σ a2) ∧ (((fp_U_isThere σ a2) → ((vp_in a2 8) ∧ ((vp_in a2 8) ∧ (Ev none (d + 2) m_C_together 0 [some (vR 2 0), some (vI (σ.1 33 0 (a2.toNatClampNeg))), some (vI (σ.1 32 0 (a2.toNatClampNeg))), none, none, none] [] σ (fun r s8 => ∃ z9 : Int32, r = some (vI z9) ∧ ((vp_in a2 8) ∧ (∀ z11 : Int32, z11 = (if z9 = (s8.1 34 0 (a2.toNatClampNeg)) then a1 else (a1 + (1 : Int32))) → (Ev none (d + 3) m_U_countUnlike 4 [some (vR 8 0), some (vI z11), some (vI (a2 + (1 : Int32)))] [] s8 post)))))))) ∧ (¬ (fp_U_isThere σ a2) → (Ev none (d + 3) m_U_countUnlike 4 [some (vR 8 0), some (vI (a1 + (1 : Int32))), some (vI (a2 + (1 : Int32)))] [] σ post)))))) : Ev none (d + 3) m_U_countUnlike 4 [some (vR 8 0), some (vI a1), some (vI a2)] [] σ post := by
  refine ev_iload_n d_U_countUnlike_4 rfl rfl ?_
  refine ev_aload_n d_U_countUnlike_5 rfl rfl ?_
  refine ev_getI gf_U_21 rfl (by decide) d_U_countUnlike_6 ?_
  refine ev_icmp_ge (tgt := 57) d_U_countUnlike_9 rfl (fun h1 => ?_) (fun h1 => ?_)
  · replace K := K.1 h1
    refine ev_iload_n d_U_countUnlike_57 rfl rfl ?_
    exact ev_ret (r := some (vI a1)) d_U_countUnlike_58 rfl rfl K
  · replace K := K.2 h1
    refine ev_aload_n d_U_countUnlike_12 rfl rfl ?_
    refine ev_iload_n d_U_countUnlike_13 rfl rfl ?_
    obtain ⟨q2, K⟩ := K
    refine ev_callV (as := [vI a2]) (st := []) (k := 8) (i := 0) g_U_isThere ml_U_29 rfl rfl (by decide) (by decide) d_U_countUnlike_14 rfl rfl (Nat.le_of_ble_eq_true rfl) rfl (Nat.le_of_ble_eq_true rfl) ?_
    refine f_U_isThere q2 ?_
    show Ev none (d + 3) m_U_countUnlike 17 [some (vR 8 0), some (vI a1), some (vI a2)] [vI (bi (fp_U_isThere σ a2))] σ post
    refine ev_ifb_eq (tgt := 48) d_U_countUnlike_17 rfl (fun h5 => ?_) (fun h5 => ?_)
    · replace K := K.2 h5
      refine ev_iinc (v := a1 + (1 : Int32)) (L' := [some (vR 8 0), some (vI (a1 + (1 : Int32))), some (vI a2)]) d_U_countUnlike_48 rfl (congrArg (a1 + ·) (by decide)) (by decide) rfl ?_
      refine ev_iinc (v := a2 + (1 : Int32)) (L' := [some (vR 8 0), some (vI (a1 + (1 : Int32))), some (vI (a2 + (1 : Int32)))]) d_U_countUnlike_51 rfl (congrArg (a2 + ·) (by decide)) (by decide) rfl ?_
      refine ev_goto (tgt := 4) d_U_countUnlike_54 rfl ?_
      exact K
    · replace K := K.1 h5
      refine ev_aload_n d_U_countUnlike_20 rfl rfl ?_
      refine ev_getR gf_U_25 rfl (by decide) d_U_countUnlike_21 ?_
      refine ev_aload_n d_U_countUnlike_24 rfl rfl ?_
      refine ev_getR gf_U_15 rfl (by decide) d_U_countUnlike_25 ?_
      refine ev_iload_n d_U_countUnlike_28 rfl rfl ?_
      obtain ⟨q6, K⟩ := K
      refine ev_iald rfl (by decide) (by decide) q6 d_U_countUnlike_29 ?_
      refine ev_aload_n d_U_countUnlike_30 rfl rfl ?_
      refine ev_getR gf_U_11 rfl (by decide) d_U_countUnlike_31 ?_
      refine ev_iload_n d_U_countUnlike_34 rfl rfl ?_
      obtain ⟨q7, K⟩ := K
      refine ev_iald rfl (by decide) (by decide) q7 d_U_countUnlike_35 ?_
      refine ev_callV (as := [vI (σ.1 33 0 (a2.toNatClampNeg)), vI (σ.1 32 0 (a2.toNatClampNeg))]) (st := []) (k := 2) (i := 0) g_C_together ml_U_33 rfl rfl (by decide) (by decide) d_U_countUnlike_36 rfl rfl (Nat.le_of_ble_eq_true rfl) rfl (Nat.le_of_ble_eq_true rfl) ?_
      refine Ev.mono K ?_
      rintro _ s8 ⟨z9, rfl, K⟩
      show Ev none (d + 3) m_U_countUnlike 39 [some (vR 8 0), some (vI a1), some (vI a2)] [vI z9] s8 post
      refine ev_aload_n d_U_countUnlike_39 rfl rfl ?_
      refine ev_getR gf_U_18 rfl (by decide) d_U_countUnlike_40 ?_
      refine ev_iload_n d_U_countUnlike_43 rfl rfl ?_
      obtain ⟨q10, K⟩ := K
      refine ev_iald rfl (by decide) (by decide) q10 d_U_countUnlike_44 ?_
      obtain ⟨z11, ez11⟩ : ∃ z : Int32, z = (if z9 = (s8.1 34 0 (a2.toNatClampNeg)) then a1 else (a1 + (1 : Int32))) := ⟨_, rfl⟩
      replace K := K z11 ez11
      have JJ : Ev none (d + 3) m_U_countUnlike 51 [some (vR 8 0), some (vI z11), some (vI a2)] [] s8 post := by
        refine ev_iinc (v := a2 + (1 : Int32)) (L' := [some (vR 8 0), some (vI z11), some (vI (a2 + (1 : Int32)))]) d_U_countUnlike_51 rfl (congrArg (a2 + ·) (by decide)) (by decide) rfl ?_
        refine ev_goto (tgt := 4) d_U_countUnlike_54 rfl ?_
        exact K
      clear K
      refine ev_icmp_eq (tgt := 51) d_U_countUnlike_45 rfl (fun h12 => ?_) (fun h12 => ?_)
      · rw [if_pos h12] at ez11
        subst ez11
        exact JJ
      · rw [if_neg h12] at ez11
        refine ev_iinc (v := a1 + (1 : Int32)) (L' := [some (vR 8 0), some (vI (a1 + (1 : Int32))), some (vI a2)]) d_U_countUnlike_48 rfl (congrArg (a1 + ·) (by decide)) (by decide) rfl ?_
        subst ez11
        exact JJ
set_option maxRecDepth 4000 in
theorem sg_D_findOutcomes_0 {d : Nat} {σ : ST} {a1 : Int32} {a2 : Int32} {post : Option AV → ST → Prop} (K : Ev none (d + 3) m_D_findOutcomes 5 [some (vR 9 0), some (vI a1), some (vI a2), some (vI (0 : Int32)), some (vI (0 : Int32)), none, none, none, none] [] σ post) : Ev none (d + 3) m_D_findOutcomes 0 [some (vR 9 0), some (vI a1), some (vI a2), none, none, none, none, none, none] [] σ post := by
  refine ev_iconst (v := 0) d_D_findOutcomes_0 (by decide) ?_
  refine ev_istore_n (L' := [some (vR 9 0), some (vI a1), some (vI a2), some (vI (0 : Int32)), none, none, none, none, none]) d_D_findOutcomes_1 rfl (by decide) rfl ?_
  refine ev_iconst (v := 0) d_D_findOutcomes_2 (by decide) ?_
  refine ev_istore (L' := [some (vR 9 0), some (vI a1), some (vI a2), some (vI (0 : Int32)), some (vI (0 : Int32)), none, none, none, none]) d_D_findOutcomes_3 (by decide) rfl ?_
  exact K
set_option maxRecDepth 4000 in
theorem sg_D_findOutcomes_5 {d : Nat} {σ : ST} {a1 : Int32} {a2 : Int32} {a3 : Int32} {a4 : Int32} {post : Option AV → ST → Prop} (K : (((6 : Int32) ≤ a4) → (Ev none (d + 3) m_D_findOutcomes 77 [some (vR 9 0), none, none, some (vI a3), some (vI (0 : Int32)), none, none, none, none] [] (setI σ 9 0 6 (0 : Int32)) post)) ∧ (¬ ((6 : Int32) ≤ a4) → ((((3 : Int32) ≤ a3) → (Ev none (d + 3) m_D_findOutcomes 77 [some (vR 9 0), none, none, some (vI a3), some (vI (0 : Int32)), none, none, none, none] [] (setI σ 9 0 6 (0 : Int32)) post)) ∧ (¬ ((3 : Int32) ≤ a3) → (((fp_O_holds σ a1 a4) → ((fs_C_minutes σ a4 a2) ∧ ((vp_in a3 3) ∧ ((fs_C_person (setI σ 36 0 (a3.toNatClampNeg) (fn_C_minutes σ a4 a2)) a4) ∧ ((vp_in a3 3) ∧ (Ev none (d + 3) m_D_findOutcomes 5 [some (vR 9 0), some (vI a1), some (vI a2), some (vI (a3 + (1 : Int32))), some (vI (a4 + (1 : Int32))), none, none, none, none] [] (setI (setI σ 36 0 (a3.toNatClampNeg) (fn_C_minutes σ a4 a2)) 37 0 (a3.toNatClampNeg) (fn_R_mood (setI σ 36 0 (a3.toNatClampNeg) (fn_C_minutes σ a4 a2)) (fx_C_person (setI σ 36 0 (a3.toNatClampNeg) (fn_C_minutes σ a4 a2)) a4))) post)))))) ∧ (¬ (fp_O_holds σ a1 a4) → (Ev none (d + 3) m_D_findOutcomes 5 [some (vR 9 0), some (vI a1), some (vI a2), some (vI a3), some (vI (a4 + (1 : Int32))), none, none, none, none] [] σ post))))))) : Ev none (d + 3) m_D_findOutcomes 5 [some (vR 9 0), some (vI a1), some (vI a2), some (vI a3), some (vI a4), none, none, none, none] [] σ post := by
  refine ev_iload d_D_findOutcomes_5 rfl ?_
  refine ev_bipush (v := 6) d_D_findOutcomes_7 (by decide) ?_
  refine ev_icmp_ge (tgt := 69) d_D_findOutcomes_9 rfl (fun h3 => ?_) (fun h3 => ?_)
  · replace K := K.1 h3
    refine ev_aload_n d_D_findOutcomes_69 rfl rfl ?_
    refine ev_iconst (v := 0) d_D_findOutcomes_70 (by decide) ?_
    refine ev_putI gp_D_28 rfl (by decide) d_D_findOutcomes_71 ?_
    refine ev_iconst (v := 0) d_D_findOutcomes_74 (by decide) ?_
    refine ev_istore (L' := [some (vR 9 0), some (vI a1), some (vI a2), some (vI a3), some (vI (0 : Int32)), none, none, none, none]) d_D_findOutcomes_75 (by decide) rfl ?_
    exact Ev.wk (lsub_kp (lsub_sk (lsub_sk (lsub_kp (lsub_kp (lsub_sk (lsub_sk (lsub_sk (lsub_sk (lsub_nil)))))))))) K
  · replace K := K.2 h3
    refine ev_iload_n d_D_findOutcomes_12 rfl rfl ?_
    refine ev_iconst (v := 3) d_D_findOutcomes_13 (by decide) ?_
    refine ev_icmp_ge (tgt := 69) d_D_findOutcomes_14 rfl (fun h6 => ?_) (fun h6 => ?_)
    · replace K := K.1 h6
      refine ev_aload_n d_D_findOutcomes_69 rfl rfl ?_
      refine ev_iconst (v := 0) d_D_findOutcomes_70 (by decide) ?_
      refine ev_putI gp_D_28 rfl (by decide) d_D_findOutcomes_71 ?_
      refine ev_iconst (v := 0) d_D_findOutcomes_74 (by decide) ?_
      refine ev_istore (L' := [some (vR 9 0), some (vI a1), some (vI a2), some (vI a3), some (vI (0 : Int32)), none, none, none, none]) d_D_findOutcomes_75 (by decide) rfl ?_
      exact Ev.wk (lsub_kp (lsub_sk (lsub_sk (lsub_kp (lsub_kp (lsub_sk (lsub_sk (lsub_sk (lsub_sk (lsub_nil)))))))))) K
    · replace K := K.2 h6
      refine ev_iload_n d_D_findOutcomes_17 rfl rfl ?_
      refine ev_iload d_D_findOutcomes_18 rfl ?_
      refine ev_callN (as := [vI a1, vI a4]) (st := []) g_O_holds ml_D_87 d_D_findOutcomes_20 rfl rfl (Nat.le_of_ble_eq_true rfl) rfl (Nat.le_of_ble_eq_true rfl) ?_
      refine f_O_holds  ?_
      show Ev none (d + 3) m_D_findOutcomes 23 [some (vR 9 0), some (vI a1), some (vI a2), some (vI a3), some (vI a4), none, none, none, none] [vI (bi (fp_O_holds σ a1 a4))] σ post
      refine ev_ifb_eq (tgt := 63) d_D_findOutcomes_23 rfl (fun h9 => ?_) (fun h9 => ?_)
      · replace K := K.2 h9
        refine ev_iinc (v := a4 + (1 : Int32)) (L' := [some (vR 9 0), some (vI a1), some (vI a2), some (vI a3), some (vI (a4 + (1 : Int32))), none, none, none, none]) d_D_findOutcomes_63 rfl (congrArg (a4 + ·) (by decide)) (by decide) rfl ?_
        refine ev_goto (tgt := 5) d_D_findOutcomes_66 rfl ?_
        exact K
      · replace K := K.1 h9
        refine ev_aload_n d_D_findOutcomes_26 rfl rfl ?_
        refine ev_getR gf_D_15 rfl (by decide) d_D_findOutcomes_27 ?_
        refine ev_iload_n d_D_findOutcomes_30 rfl rfl ?_
        refine ev_aload_n d_D_findOutcomes_31 rfl rfl ?_
        refine ev_getR gf_D_39 rfl (by decide) d_D_findOutcomes_32 ?_
        refine ev_iload d_D_findOutcomes_35 rfl ?_
        refine ev_iload_n d_D_findOutcomes_37 rfl rfl ?_
        obtain ⟨q10, K⟩ := K
        refine ev_callV (as := [vI a4, vI a2]) (st := [vI a3, vR 36 0]) (k := 2) (i := 0) g_C_minutes ml_D_91 rfl rfl (by decide) (by decide) d_D_findOutcomes_38 rfl rfl (Nat.le_of_ble_eq_true rfl) rfl (Nat.le_of_ble_eq_true rfl) ?_
        refine f_C_minutes q10 ?_
        show Ev none (d + 3) m_D_findOutcomes 41 [some (vR 9 0), some (vI a1), some (vI a2), some (vI a3), some (vI a4), none, none, none, none] [vI (fn_C_minutes σ a4 a2), vI a3, vR 36 0] σ post
        obtain ⟨q11, K⟩ := K
        refine ev_iast rfl (by decide) (by decide) q11 d_D_findOutcomes_41 ?_
        refine ev_aload_n d_D_findOutcomes_42 rfl rfl ?_
        refine ev_getR gf_D_19 rfl (by decide) d_D_findOutcomes_43 ?_
        refine ev_iload_n d_D_findOutcomes_46 rfl rfl ?_
        refine ev_aload_n d_D_findOutcomes_47 rfl rfl ?_
        refine ev_getR gf_D_39 rfl (by decide) d_D_findOutcomes_48 ?_
        refine ev_iload d_D_findOutcomes_51 rfl ?_
        obtain ⟨q12, K⟩ := K
        refine ev_callV (as := [vI a4]) (st := [vI a3, vR 37 0]) (k := 2) (i := 0) g_C_person ml_D_94 rfl rfl (by decide) (by decide) d_D_findOutcomes_53 rfl rfl (Nat.le_of_ble_eq_true rfl) rfl (Nat.le_of_ble_eq_true rfl) ?_
        refine f_C_person q12 ?_
        show Ev none (d + 3) m_D_findOutcomes 56 [some (vR 9 0), some (vI a1), some (vI a2), some (vI a3), some (vI a4), none, none, none, none] [vR 3 (fx_C_person (setI σ 36 0 (a3.toNatClampNeg) (fn_C_minutes σ a4 a2)) a4), vI a3, vR 37 0] (setI σ 36 0 (a3.toNatClampNeg) (fn_C_minutes σ a4 a2)) post
        refine ev_callV (as := []) (st := [vI a3, vR 37 0]) (k := 3) (i := (fx_C_person (setI σ 36 0 (a3.toNatClampNeg) (fn_C_minutes σ a4 a2)) a4)) g_R_mood ml_D_98 rfl rfl (by decide) (fb_C_person q12) d_D_findOutcomes_56 rfl rfl (Nat.le_of_ble_eq_true rfl) rfl (Nat.le_of_ble_eq_true rfl) ?_
        refine f_R_mood (fb_C_person q12) ?_
        show Ev none (d + 3) m_D_findOutcomes 59 [some (vR 9 0), some (vI a1), some (vI a2), some (vI a3), some (vI a4), none, none, none, none] [vI (fn_R_mood (setI σ 36 0 (a3.toNatClampNeg) (fn_C_minutes σ a4 a2)) (fx_C_person (setI σ 36 0 (a3.toNatClampNeg) (fn_C_minutes σ a4 a2)) a4)), vI a3, vR 37 0] (setI σ 36 0 (a3.toNatClampNeg) (fn_C_minutes σ a4 a2)) post
        obtain ⟨q13, K⟩ := K
        refine ev_iast rfl (by decide) (by decide) q13 d_D_findOutcomes_59 ?_
        refine ev_iinc (v := a3 + (1 : Int32)) (L' := [some (vR 9 0), some (vI a1), some (vI a2), some (vI (a3 + (1 : Int32))), some (vI a4), none, none, none, none]) d_D_findOutcomes_60 rfl (congrArg (a3 + ·) (by decide)) (by decide) rfl ?_
        refine ev_iinc (v := a4 + (1 : Int32)) (L' := [some (vR 9 0), some (vI a1), some (vI a2), some (vI (a3 + (1 : Int32))), some (vI (a4 + (1 : Int32))), none, none, none, none]) d_D_findOutcomes_63 rfl (congrArg (a4 + ·) (by decide)) (by decide) rfl ?_
        refine ev_goto (tgt := 5) d_D_findOutcomes_66 rfl ?_
        exact K
set_option maxRecDepth 4000 in
theorem sg_D_findOutcomes_77 {d : Nat} {σ : ST} {a3 : Int32} {a4 : Int32} {post : Option AV → ST → Prop} (K : (((isl (1 : Int32) a3) ≤ a4) → (post none σ)) ∧ (¬ ((isl (1 : Int32) a3) ≤ a4) → (Ev none (d + 3) m_D_findOutcomes 94 [some (vR 9 0), none, none, some (vI a3), some (vI a4), some (vI (0 : Int32)), some (vI (1 : Int32)), some (vI (0 : Int32)), none] [] σ post))) : Ev none (d + 3) m_D_findOutcomes 77 [some (vR 9 0), none, none, some (vI a3), some (vI a4), none, none, none, none] [] σ post := by
  refine ev_iload d_D_findOutcomes_77 rfl ?_
  refine ev_iconst (v := 1) d_D_findOutcomes_79 (by decide) ?_
  refine ev_iload_n d_D_findOutcomes_80 rfl rfl ?_
  refine ev_ishl d_D_findOutcomes_81 ?_
  refine ev_icmp_ge (tgt := 189) d_D_findOutcomes_82 rfl (fun h1 => ?_) (fun h1 => ?_)
  · replace K := K.1 h1
    exact ev_ret (r := none) d_D_findOutcomes_189 rfl rfl K
  · replace K := K.2 h1
    refine ev_iconst (v := 0) d_D_findOutcomes_85 (by decide) ?_
    refine ev_istore (L' := [some (vR 9 0), none, none, some (vI a3), some (vI a4), some (vI (0 : Int32)), none, none, none]) d_D_findOutcomes_86 (by decide) rfl ?_
    refine ev_iconst (v := 1) d_D_findOutcomes_88 (by decide) ?_
    refine ev_istore (L' := [some (vR 9 0), none, none, some (vI a3), some (vI a4), some (vI (0 : Int32)), some (vI (1 : Int32)), none, none]) d_D_findOutcomes_89 (by decide) rfl ?_
    refine ev_iconst (v := 0) d_D_findOutcomes_91 (by decide) ?_
    refine ev_istore (L' := [some (vR 9 0), none, none, some (vI a3), some (vI a4), some (vI (0 : Int32)), some (vI (1 : Int32)), some (vI (0 : Int32)), none]) d_D_findOutcomes_92 (by decide) rfl ?_
    exact K
set_option maxRecDepth 4000 in
theorem sg_D_findOutcomes_94 {d : Nat} {σ : ST} {a3 : Int32} {a4 : Int32} {a5 : Int32} {a6 : Int32} {a7 : Int32} {post : Option AV → ST → Prop} (K : ((a3 ≤ a7) → (Ev none (d + 2) m_D_addOutcome 0 [some (vR 9 0), some (vI a5), some (vI a6), none] [] σ (fun r s4 => r = none ∧ (Ev none (d + 3) m_D_findOutcomes 77 [some (vR 9 0), none, none, some (vI a3), some (vI (a4 + (1 : Int32))), none, none, none, none] [] s4 post)))) ∧ (¬ (a3 ≤ a7) → ((((fp_O_holds σ a4 a7) → (vp_in a7 3)) ∧ (¬ (fp_O_holds σ a4 a7) → (vp_in a7 3))) ∧ (∀ z7 : Int32, z7 = (if fp_O_holds σ a4 a7 then ((2 : Int32) * (σ.1 36 0 (a7.toNatClampNeg))) else (σ.1 36 0 (a7.toNatClampNeg))) → ((((fp_O_holds σ a4 a7) → (vp_in a7 3)) ∧ (¬ (fp_O_holds σ a4 a7) → (vp_in a7 3))) ∧ (∀ z10 : Int32, z10 = (if fp_O_holds σ a4 a7 then (σ.1 37 0 (a7.toNatClampNeg)) else ((4 : Int32) - (σ.1 37 0 (a7.toNatClampNeg)))) → (Ev none (d + 3) m_D_findOutcomes 94 [some (vR 9 0), none, none, some (vI a3), some (vI a4), some (vI (imax a5 z7)), some (vI (a6 * z10)), some (vI (a7 + (1 : Int32))), none] [] σ post))))))) : Ev none (d + 3) m_D_findOutcomes 94 [some (vR 9 0), none, none, some (vI a3), some (vI a4), some (vI a5), some (vI a6), some (vI a7), none] [] σ post := by
  refine ev_iload d_D_findOutcomes_94 rfl ?_
  refine ev_iload_n d_D_findOutcomes_96 rfl rfl ?_
  refine ev_icmp_ge (tgt := 175) d_D_findOutcomes_97 rfl (fun h3 => ?_) (fun h3 => ?_)
  · replace K := K.1 h3
    refine ev_aload_n d_D_findOutcomes_175 rfl rfl ?_
    refine ev_iload d_D_findOutcomes_176 rfl ?_
    refine ev_iload d_D_findOutcomes_178 rfl ?_
    refine ev_callV (as := [vI a5, vI a6]) (st := []) (k := 9) (i := 0) g_D_addOutcome ml_D_106 rfl rfl (by decide) (by decide) d_D_findOutcomes_180 rfl rfl (Nat.le_of_ble_eq_true rfl) rfl (Nat.le_of_ble_eq_true rfl) ?_
    refine Ev.mono K ?_
    rintro _ s4 ⟨rfl, K⟩
    show Ev none (d + 3) m_D_findOutcomes 183 [some (vR 9 0), none, none, some (vI a3), some (vI a4), some (vI a5), some (vI a6), some (vI a7), none] [] s4 post
    refine ev_iinc (v := a4 + (1 : Int32)) (L' := [some (vR 9 0), none, none, some (vI a3), some (vI (a4 + (1 : Int32))), some (vI a5), some (vI a6), some (vI a7), none]) d_D_findOutcomes_183 rfl (congrArg (a4 + ·) (by decide)) (by decide) rfl ?_
    refine ev_goto (tgt := 77) d_D_findOutcomes_186 rfl ?_
    exact Ev.wk (lsub_kp (lsub_sk (lsub_sk (lsub_kp (lsub_kp (lsub_sk (lsub_sk (lsub_sk (lsub_sk (lsub_nil)))))))))) K
  · replace K := K.2 h3
    refine ev_iload d_D_findOutcomes_100 rfl ?_
    refine ev_iload d_D_findOutcomes_102 rfl ?_
    refine ev_callN (as := [vI a4, vI a7]) (st := []) g_O_holds ml_D_87 d_D_findOutcomes_104 rfl rfl (Nat.le_of_ble_eq_true rfl) rfl (Nat.le_of_ble_eq_true rfl) ?_
    refine f_O_holds  ?_
    show Ev none (d + 3) m_D_findOutcomes 107 [some (vR 9 0), none, none, some (vI a3), some (vI a4), some (vI a5), some (vI a6), some (vI a7), none] [vI (bi (fp_O_holds σ a4 a7))] σ post
    refine ev_istore (L' := [some (vR 9 0), none, none, some (vI a3), some (vI a4), some (vI a5), some (vI a6), some (vI a7), some (vI (bi (fp_O_holds σ a4 a7)))]) d_D_findOutcomes_107 (by decide) rfl ?_
    refine ev_iload d_D_findOutcomes_109 rfl ?_
    refine ev_iload d_D_findOutcomes_111 rfl ?_
    obtain ⟨KS, K⟩ := K
    obtain ⟨z7, ez7⟩ : ∃ z : Int32, z = (if fp_O_holds σ a4 a7 then ((2 : Int32) * (σ.1 36 0 (a7.toNatClampNeg))) else (σ.1 36 0 (a7.toNatClampNeg))) := ⟨_, rfl⟩
    replace K := K z7 ez7
    have JJ : Ev none (d + 3) m_D_findOutcomes 135 [some (vR 9 0), none, none, some (vI a3), some (vI a4), none, some (vI a6), some (vI a7), some (vI (bi (fp_O_holds σ a4 a7)))] [vI z7, vI a5] σ post := by
      refine ev_mmax ml_D_103 (Nat.le_of_ble_eq_true rfl) d_D_findOutcomes_135 ?_
      refine ev_istore (L' := [some (vR 9 0), none, none, some (vI a3), some (vI a4), some (vI (imax a5 z7)), some (vI a6), some (vI a7), some (vI (bi (fp_O_holds σ a4 a7)))]) d_D_findOutcomes_138 (by decide) rfl ?_
      refine ev_iload d_D_findOutcomes_140 rfl ?_
      refine ev_iload d_D_findOutcomes_142 rfl ?_
      obtain ⟨KS, K⟩ := K
      obtain ⟨z10, ez10⟩ : ∃ z : Int32, z = (if fp_O_holds σ a4 a7 then (σ.1 37 0 (a7.toNatClampNeg)) else ((4 : Int32) - (σ.1 37 0 (a7.toNatClampNeg)))) := ⟨_, rfl⟩
      replace K := K z10 ez10
      have JJ : Ev none (d + 3) m_D_findOutcomes 166 [some (vR 9 0), none, none, some (vI a3), some (vI a4), some (vI (imax a5 z7)), none, some (vI a7), none] [vI z10, vI a6] σ post := by
        refine ev_imul d_D_findOutcomes_166 ?_
        refine ev_istore (L' := [some (vR 9 0), none, none, some (vI a3), some (vI a4), some (vI (imax a5 z7)), some (vI (a6 * z10)), some (vI a7), none]) d_D_findOutcomes_167 (by decide) rfl ?_
        refine ev_iinc (v := a7 + (1 : Int32)) (L' := [some (vR 9 0), none, none, some (vI a3), some (vI a4), some (vI (imax a5 z7)), some (vI (a6 * z10)), some (vI (a7 + (1 : Int32))), none]) d_D_findOutcomes_169 rfl (congrArg (a7 + ·) (by decide)) (by decide) rfl ?_
        refine ev_goto (tgt := 94) d_D_findOutcomes_172 rfl ?_
        exact K
      clear K
      refine ev_ifb_eq (tgt := 157) d_D_findOutcomes_144 rfl (fun h11 => ?_) (fun h11 => ?_)
      · replace KS := KS.2 h11
        rw [if_neg h11] at ez10
        have q9 := KS
        refine ev_iconst (v := 4) d_D_findOutcomes_157 (by decide) ?_
        refine ev_aload_n d_D_findOutcomes_158 rfl rfl ?_
        refine ev_getR gf_D_19 rfl (by decide) d_D_findOutcomes_159 ?_
        refine ev_iload d_D_findOutcomes_162 rfl ?_
        refine ev_iald rfl (by decide) (by decide) q9 d_D_findOutcomes_164 ?_
        refine ev_isub d_D_findOutcomes_165 ?_
        subst ez10
        exact Ev.wk (lsub_kp (lsub_sk (lsub_sk (lsub_kp (lsub_kp (lsub_kp (lsub_sk (lsub_kp (lsub_sk (lsub_nil)))))))))) JJ
      · replace KS := KS.1 h11
        rw [if_pos h11] at ez10
        have q8 := KS
        refine ev_aload_n d_D_findOutcomes_147 rfl rfl ?_
        refine ev_getR gf_D_19 rfl (by decide) d_D_findOutcomes_148 ?_
        refine ev_iload d_D_findOutcomes_151 rfl ?_
        refine ev_iald rfl (by decide) (by decide) q8 d_D_findOutcomes_153 ?_
        refine ev_goto (tgt := 166) d_D_findOutcomes_154 rfl ?_
        subst ez10
        exact Ev.wk (lsub_kp (lsub_sk (lsub_sk (lsub_kp (lsub_kp (lsub_kp (lsub_sk (lsub_kp (lsub_sk (lsub_nil)))))))))) JJ
    clear K
    refine ev_ifb_eq (tgt := 128) d_D_findOutcomes_113 rfl (fun h12 => ?_) (fun h12 => ?_)
    · replace KS := KS.2 h12
      rw [if_neg h12] at ez7
      have q6 := KS
      refine ev_aload_n d_D_findOutcomes_128 rfl rfl ?_
      refine ev_getR gf_D_15 rfl (by decide) d_D_findOutcomes_129 ?_
      refine ev_iload d_D_findOutcomes_132 rfl ?_
      refine ev_iald rfl (by decide) (by decide) q6 d_D_findOutcomes_134 ?_
      subst ez7
      exact Ev.wk (lsub_kp (lsub_sk (lsub_sk (lsub_kp (lsub_kp (lsub_sk (lsub_kp (lsub_kp (lsub_kp (lsub_nil)))))))))) JJ
    · replace KS := KS.1 h12
      rw [if_pos h12] at ez7
      have q5 := KS
      refine ev_iconst (v := 2) d_D_findOutcomes_116 (by decide) ?_
      refine ev_aload_n d_D_findOutcomes_117 rfl rfl ?_
      refine ev_getR gf_D_15 rfl (by decide) d_D_findOutcomes_118 ?_
      refine ev_iload d_D_findOutcomes_121 rfl ?_
      refine ev_iald rfl (by decide) (by decide) q5 d_D_findOutcomes_123 ?_
      refine ev_imul d_D_findOutcomes_124 ?_
      refine ev_goto (tgt := 135) d_D_findOutcomes_125 rfl ?_
      subst ez7
      exact Ev.wk (lsub_kp (lsub_sk (lsub_sk (lsub_kp (lsub_kp (lsub_sk (lsub_kp (lsub_kp (lsub_kp (lsub_nil)))))))))) JJ
set_option maxRecDepth 4000 in
theorem sg_D_longestOf_0 {d : Nat} {σ : ST} {a1 : Int32} {post : Option AV → ST → Prop} (K : Ev none (d + 3) m_D_longestOf 4 [some (vR 9 0), some (vI a1), some (vI (0 : Int32)), some (vI (0 : Int32))] [] σ post) : Ev none (d + 3) m_D_longestOf 0 [some (vR 9 0), some (vI a1), none, none] [] σ post := by
  refine ev_iconst (v := 0) d_D_longestOf_0 (by decide) ?_
  refine ev_istore_n (L' := [some (vR 9 0), some (vI a1), some (vI (0 : Int32)), none]) d_D_longestOf_1 rfl (by decide) rfl ?_
  refine ev_iconst (v := 0) d_D_longestOf_2 (by decide) ?_
  refine ev_istore_n (L' := [some (vR 9 0), some (vI a1), some (vI (0 : Int32)), some (vI (0 : Int32))]) d_D_longestOf_3 rfl (by decide) rfl ?_
  exact K
set_option maxRecDepth 4000 in
theorem sg_D_longestOf_4 {d : Nat} {σ : ST} {a1 : Int32} {a2 : Int32} {a3 : Int32} {post : Option AV → ST → Prop} (K : (((fn_C_chapters σ) ≤ a3) → (post (some (vI (imin a2 (3168 : Int32)))) σ)) ∧ (¬ ((fn_C_chapters σ) ≤ a3) → ((fs_C_isSkipped σ a3) ∧ ((((fn_C_isSkipped σ a3) = 0) → (Ev none (d + 2) m_C_together 0 [some (vR 2 0), some (vI a1), some (vI a3), none, none, none] [] σ (fun r s5 => ∃ z6 : Int32, r = some (vI z6) ∧ (Ev none (d + 3) m_D_longestOf 4 [some (vR 9 0), some (vI a1), some (vI (a2 + ((2 : Int32) * z6))), some (vI (a3 + (1 : Int32)))] [] s5 post)))) ∧ (¬ ((fn_C_isSkipped σ a3) = 0) → (Ev none (d + 3) m_D_longestOf 4 [some (vR 9 0), some (vI a1), some (vI a2), some (vI (a3 + (1 : Int32)))] [] σ post)))))) : Ev none (d + 3) m_D_longestOf 4 [some (vR 9 0), some (vI a1), some (vI a2), some (vI a3)] [] σ post := by
  refine ev_iload_n d_D_longestOf_4 rfl rfl ?_
  refine ev_aload_n d_D_longestOf_5 rfl rfl ?_
  refine ev_getR gf_D_39 rfl (by decide) d_D_longestOf_6 ?_
  refine ev_callV (as := []) (st := [vI a3]) (k := 2) (i := 0) g_C_chapters ml_D_53 rfl rfl (by decide) (by decide) d_D_longestOf_9 rfl rfl (Nat.le_of_ble_eq_true rfl) rfl (Nat.le_of_ble_eq_true rfl) ?_
  refine f_C_chapters  ?_
  show Ev none (d + 3) m_D_longestOf 12 [some (vR 9 0), some (vI a1), some (vI a2), some (vI a3)] [vI (fn_C_chapters σ), vI a3] σ post
  refine ev_icmp_ge (tgt := 46) d_D_longestOf_12 rfl (fun h2 => ?_) (fun h2 => ?_)
  · replace K := K.1 h2
    refine ev_iload_n d_D_longestOf_46 rfl rfl ?_
    refine ev_sipush (v := 3168) d_D_longestOf_47 (by decide) ?_
    refine ev_mmin ml_D_47 (Nat.le_of_ble_eq_true rfl) d_D_longestOf_50 ?_
    exact ev_ret (r := some (vI (imin a2 (3168 : Int32)))) d_D_longestOf_53 rfl rfl K
  · replace K := K.2 h2
    refine ev_aload_n d_D_longestOf_15 rfl rfl ?_
    refine ev_getR gf_D_39 rfl (by decide) d_D_longestOf_16 ?_
    refine ev_iload_n d_D_longestOf_19 rfl rfl ?_
    obtain ⟨q3, K⟩ := K
    refine ev_callV (as := [vI a3]) (st := []) (k := 2) (i := 0) g_C_isSkipped ml_D_59 rfl rfl (by decide) (by decide) d_D_longestOf_20 rfl rfl (Nat.le_of_ble_eq_true rfl) rfl (Nat.le_of_ble_eq_true rfl) ?_
    refine f_C_isSkipped q3 ?_
    show Ev none (d + 3) m_D_longestOf 23 [some (vR 9 0), some (vI a1), some (vI a2), some (vI a3)] [vI (fn_C_isSkipped σ a3)] σ post
    refine ev_if_ne (tgt := 40) d_D_longestOf_23 rfl (fun h4 => ?_) (fun h4 => ?_)
    · replace K := K.2 h4
      refine ev_iinc (v := a3 + (1 : Int32)) (L' := [some (vR 9 0), some (vI a1), some (vI a2), some (vI (a3 + (1 : Int32)))]) d_D_longestOf_40 rfl (congrArg (a3 + ·) (by decide)) (by decide) rfl ?_
      refine ev_goto (tgt := 4) d_D_longestOf_43 rfl ?_
      exact K
    · replace K := K.1 h4
      refine ev_iload_n d_D_longestOf_26 rfl rfl ?_
      refine ev_iconst (v := 2) d_D_longestOf_27 (by decide) ?_
      refine ev_aload_n d_D_longestOf_28 rfl rfl ?_
      refine ev_getR gf_D_39 rfl (by decide) d_D_longestOf_29 ?_
      refine ev_iload_n d_D_longestOf_32 rfl rfl ?_
      refine ev_iload_n d_D_longestOf_33 rfl rfl ?_
      refine ev_callV (as := [vI a1, vI a3]) (st := [vI (2 : Int32), vI a2]) (k := 2) (i := 0) g_C_together ml_D_79 rfl rfl (by decide) (by decide) d_D_longestOf_34 rfl rfl (Nat.le_of_ble_eq_true rfl) rfl (Nat.le_of_ble_eq_true rfl) ?_
      refine Ev.mono K ?_
      rintro _ s5 ⟨z6, rfl, K⟩
      show Ev none (d + 3) m_D_longestOf 37 [some (vR 9 0), some (vI a1), some (vI a2), some (vI a3)] [vI z6, vI (2 : Int32), vI a2] s5 post
      refine ev_imul d_D_longestOf_37 ?_
      refine ev_iadd d_D_longestOf_38 ?_
      refine ev_istore_n (L' := [some (vR 9 0), some (vI a1), some (vI (a2 + ((2 : Int32) * z6))), some (vI a3)]) d_D_longestOf_39 rfl (by decide) rfl ?_
      refine ev_iinc (v := a3 + (1 : Int32)) (L' := [some (vR 9 0), some (vI a1), some (vI (a2 + ((2 : Int32) * z6))), some (vI (a3 + (1 : Int32)))]) d_D_longestOf_40 rfl (congrArg (a3 + ·) (by decide)) (by decide) rfl ?_
      refine ev_goto (tgt := 4) d_D_longestOf_43 rfl ?_
      exact K
set_option maxRecDepth 4000 in
theorem sg_B_append_0 {d : Nat} {σ : ST} {a1 : Int32} {post : Option AV → ST → Prop} (K : (((σ.1 1 0 3) < (60 : Int32)) → ((vp_in (σ.1 1 0 3) 60) ∧ (Ev none (d + 3) m_B_parse 0 [some (vR 1 0), none] [] (setI (setI σ 12 0 ((σ.1 1 0 3).toNatClampNeg) a1) 1 0 3 (((setI σ 12 0 ((σ.1 1 0 3).toNatClampNeg) a1).1 1 0 3) + (1 : Int32))) (fun r s3 => r = none ∧ (post (some (vI (1 : Int32))) s3))))) ∧ (¬ ((σ.1 1 0 3) < (60 : Int32)) → (post (some (vI (0 : Int32))) σ))) : Ev none (d + 4) m_B_append 0 [some (vR 1 0), some (vI a1)] [] σ post := by
  refine ev_aload_n d_B_append_0 rfl rfl ?_
  refine ev_getI gf_B_21 rfl (by decide) d_B_append_1 ?_
  refine ev_bipush (v := 60) d_B_append_4 (by decide) ?_
  refine ev_icmp_lt (tgt := 11) d_B_append_6 rfl (fun h1 => ?_) (fun h1 => ?_)
  · replace K := K.1 h1
    refine ev_aload_n d_B_append_11 rfl rfl ?_
    refine ev_getR gf_B_11 rfl (by decide) d_B_append_12 ?_
    refine ev_aload_n d_B_append_15 rfl rfl ?_
    refine ev_getI gf_B_21 rfl (by decide) d_B_append_16 ?_
    refine ev_iload_n d_B_append_19 rfl rfl ?_
    obtain ⟨q2, K⟩ := K
    refine ev_iast rfl (by decide) (by decide) q2 d_B_append_20 ?_
    refine ev_aload_n d_B_append_21 rfl rfl ?_
    refine ev_dup d_B_append_22 rfl ?_
    refine ev_getI gf_B_21 rfl (by decide) d_B_append_23 ?_
    refine ev_iconst (v := 1) d_B_append_26 (by decide) ?_
    refine ev_iadd d_B_append_27 ?_
    refine ev_putI gp_B_21 rfl (by decide) d_B_append_28 ?_
    refine ev_aload_n d_B_append_31 rfl rfl ?_
    refine ev_callV (as := []) (st := []) (k := 1) (i := 0) g_B_parse ml_B_31 rfl rfl (by decide) (by decide) d_B_append_32 rfl rfl (Nat.le_of_ble_eq_true rfl) rfl (Nat.le_of_ble_eq_true rfl) ?_
    refine Ev.mono K ?_
    rintro _ s3 ⟨rfl, K⟩
    show Ev none (d + 4) m_B_append 35 [some (vR 1 0), some (vI a1)] [] s3 post
    refine ev_iconst (v := 1) d_B_append_35 (by decide) ?_
    exact ev_ret (r := some (vI (1 : Int32))) d_B_append_36 rfl ⟨rfl, (by decide)⟩ K
  · replace K := K.2 h1
    refine ev_iconst (v := 0) d_B_append_9 (by decide) ?_
    exact ev_ret (r := some (vI (0 : Int32))) d_B_append_10 rfl ⟨rfl, (by decide)⟩ K
set_option maxRecDepth 4000 in
theorem sg_B_clear_0 {d : Nat} {σ : ST}  {post : Option AV → ST → Prop} (K : Ev none (d + 3) m_B_parse 0 [some (vR 1 0), none] [] (setI σ 1 0 3 (0 : Int32)) (fun r s1 => r = none ∧ (post none s1))) : Ev none (d + 4) m_B_clear 0 [some (vR 1 0)] [] σ post := by
  refine ev_aload_n d_B_clear_0 rfl rfl ?_
  refine ev_iconst (v := 0) d_B_clear_1 (by decide) ?_
  refine ev_putI gp_B_21 rfl (by decide) d_B_clear_2 ?_
  refine ev_aload_n d_B_clear_5 rfl rfl ?_
  refine ev_callV (as := []) (st := []) (k := 1) (i := 0) g_B_parse ml_B_31 rfl rfl (by decide) (by decide) d_B_clear_6 rfl rfl (Nat.le_of_ble_eq_true rfl) rfl (Nat.le_of_ble_eq_true rfl) ?_
  refine Ev.mono K ?_
  rintro _ s1 ⟨rfl, K⟩
  show Ev none (d + 4) m_B_clear 9 [some (vR 1 0)] [] s1 post
  exact ev_ret (r := none) d_B_clear_9 rfl rfl K
set_option maxRecDepth 4000 in
theorem sg_E_sit_0 {d : Nat} {σ : ST} {a1 : Int32} {a2 : Int32} {a3 : Int32} {post : Option AV → ST → Prop} (K : Ev none (d + 4) m_E_sit 18 [some (vR 4 0), some (vI a1), some (vI a2), some (vI a3), some (vI (0 : Int32))] [] (setI (setI (setI σ 4 0 2 (0 : Int32)) 4 0 3 (0 : Int32)) 4 0 4 (-1 : Int32)) post) : Ev none (d + 4) m_E_sit 0 [some (vR 4 0), some (vI a1), some (vI a2), some (vI a3), none] [] σ post := by
  refine ev_aload_n d_E_sit_0 rfl rfl ?_
  refine ev_iconst (v := 0) d_E_sit_1 (by decide) ?_
  refine ev_putI gp_E_15 rfl (by decide) d_E_sit_2 ?_
  refine ev_aload_n d_E_sit_5 rfl rfl ?_
  refine ev_iconst (v := 0) d_E_sit_6 (by decide) ?_
  refine ev_putI gp_E_19 rfl (by decide) d_E_sit_7 ?_
  refine ev_aload_n d_E_sit_10 rfl rfl ?_
  refine ev_iconst (v := -1) d_E_sit_11 (by decide) ?_
  refine ev_putI gp_E_22 rfl (by decide) d_E_sit_12 ?_
  refine ev_iconst (v := 0) d_E_sit_15 (by decide) ?_
  refine ev_istore (L' := [some (vR 4 0), some (vI a1), some (vI a2), some (vI a3), some (vI (0 : Int32))]) d_E_sit_16 (by decide) rfl ?_
  exact K
set_option maxRecDepth 4000 in
theorem sg_E_sit_18 {d : Nat} {σ : ST} {a1 : Int32} {a2 : Int32} {a3 : Int32} {a4 : Int32} {post : Option AV → ST → Prop} (K : (((6 : Int32) ≤ a4) → (Ev none (d + 4) m_E_sit 42 [some (vR 4 0), some (vI a1), none, some (vI a3), some (vI a2)] [] σ post)) ∧ (¬ ((6 : Int32) ≤ a4) → ((vp_in a4 6) ∧ (Ev none (d + 4) m_E_sit 18 [some (vR 4 0), some (vI a1), some (vI a2), some (vI a3), some (vI (a4 + (1 : Int32)))] [] (setI σ 20 0 (a4.toNatClampNeg) (0 : Int32)) post)))) : Ev none (d + 4) m_E_sit 18 [some (vR 4 0), some (vI a1), some (vI a2), some (vI a3), some (vI a4)] [] σ post := by
  refine ev_iload d_E_sit_18 rfl ?_
  refine ev_bipush (v := 6) d_E_sit_20 (by decide) ?_
  refine ev_icmp_ge (tgt := 39) d_E_sit_22 rfl (fun h2 => ?_) (fun h2 => ?_)
  · replace K := K.1 h2
    refine ev_iload_n d_E_sit_39 rfl rfl ?_
    refine ev_istore (L' := [some (vR 4 0), some (vI a1), some (vI a2), some (vI a3), some (vI a2)]) d_E_sit_40 (by decide) rfl ?_
    exact Ev.wk (lsub_kp (lsub_kp (lsub_sk (lsub_kp (lsub_kp (lsub_nil)))))) K
  · replace K := K.2 h2
    refine ev_aload_n d_E_sit_25 rfl rfl ?_
    refine ev_getR gf_E_9 rfl (by decide) d_E_sit_26 ?_
    refine ev_iload d_E_sit_29 rfl ?_
    refine ev_iconst (v := 0) d_E_sit_31 (by decide) ?_
    obtain ⟨q3, K⟩ := K
    refine ev_iast rfl (by decide) (by decide) q3 d_E_sit_32 ?_
    refine ev_iinc (v := a4 + (1 : Int32)) (L' := [some (vR 4 0), some (vI a1), some (vI a2), some (vI a3), some (vI (a4 + (1 : Int32)))]) d_E_sit_33 rfl (congrArg (a4 + ·) (by decide)) (by decide) rfl ?_
    refine ev_goto (tgt := 18) d_E_sit_36 rfl ?_
    exact K
set_option maxRecDepth 4000 in
theorem sg_E_sit_42 {d : Nat} {σ : ST} {a1 : Int32} {a3 : Int32} {a4 : Int32} {post : Option AV → ST → Prop} (K : (((fn_C_chapters σ) ≤ a4) → (post none σ)) ∧ (¬ ((fn_C_chapters σ) ≤ a4) → ((((σ.1 4 0 4) = (-1 : Int32)) → ((fs_C_isSkipped σ a4) ∧ ((((fn_C_isSkipped σ a4) = 0) → (Ev none (d + 3) m_E_readOrStop 0 [some (vR 4 0), some (vI a1), some (vI a4), some (vI a3), none, none] [] σ (fun r s5 => r = none ∧ (Ev none (d + 4) m_E_sit 42 [some (vR 4 0), some (vI a1), none, some (vI a3), some (vI (a4 + (1 : Int32)))] [] s5 post)))) ∧ (¬ ((fn_C_isSkipped σ a4) = 0) → (Ev none (d + 4) m_E_sit 42 [some (vR 4 0), some (vI a1), none, some (vI a3), some (vI (a4 + (1 : Int32)))] [] σ post))))) ∧ (¬ ((σ.1 4 0 4) = (-1 : Int32)) → (post none σ))))) : Ev none (d + 4) m_E_sit 42 [some (vR 4 0), some (vI a1), none, some (vI a3), some (vI a4)] [] σ post := by
  refine ev_iload d_E_sit_42 rfl ?_
  refine ev_aload_n d_E_sit_44 rfl rfl ?_
  refine ev_getR gf_E_25 rfl (by decide) d_E_sit_45 ?_
  refine ev_callV (as := []) (st := [vI a4]) (k := 2) (i := 0) g_C_chapters ml_E_29 rfl rfl (by decide) (by decide) d_E_sit_48 rfl rfl (Nat.le_of_ble_eq_true rfl) rfl (Nat.le_of_ble_eq_true rfl) ?_
  refine f_C_chapters  ?_
  show Ev none (d + 4) m_E_sit 51 [some (vR 4 0), some (vI a1), none, some (vI a3), some (vI a4)] [vI (fn_C_chapters σ), vI a4] σ post
  refine ev_icmp_ge (tgt := 88) d_E_sit_51 rfl (fun h1 => ?_) (fun h1 => ?_)
  · replace K := K.1 h1
    exact ev_ret (r := none) d_E_sit_88 rfl rfl K
  · replace K := K.2 h1
    refine ev_aload_n d_E_sit_54 rfl rfl ?_
    refine ev_getI gf_E_22 rfl (by decide) d_E_sit_55 ?_
    refine ev_iconst (v := -1) d_E_sit_58 (by decide) ?_
    refine ev_icmp_ne (tgt := 88) d_E_sit_59 rfl (fun h2 => ?_) (fun h2 => ?_)
    · replace K := K.2 h2
      exact ev_ret (r := none) d_E_sit_88 rfl rfl K
    · replace K := K.1 h2
      refine ev_aload_n d_E_sit_62 rfl rfl ?_
      refine ev_getR gf_E_25 rfl (by decide) d_E_sit_63 ?_
      refine ev_iload d_E_sit_66 rfl ?_
      obtain ⟨q3, K⟩ := K
      refine ev_callV (as := [vI a4]) (st := []) (k := 2) (i := 0) g_C_isSkipped ml_E_34 rfl rfl (by decide) (by decide) d_E_sit_68 rfl rfl (Nat.le_of_ble_eq_true rfl) rfl (Nat.le_of_ble_eq_true rfl) ?_
      refine f_C_isSkipped q3 ?_
      show Ev none (d + 4) m_E_sit 71 [some (vR 4 0), some (vI a1), none, some (vI a3), some (vI a4)] [vI (fn_C_isSkipped σ a4)] σ post
      refine ev_if_ne (tgt := 82) d_E_sit_71 rfl (fun h4 => ?_) (fun h4 => ?_)
      · replace K := K.2 h4
        refine ev_iinc (v := a4 + (1 : Int32)) (L' := [some (vR 4 0), some (vI a1), none, some (vI a3), some (vI (a4 + (1 : Int32)))]) d_E_sit_82 rfl (congrArg (a4 + ·) (by decide)) (by decide) rfl ?_
        refine ev_goto (tgt := 42) d_E_sit_85 rfl ?_
        exact K
      · replace K := K.1 h4
        refine ev_aload_n d_E_sit_74 rfl rfl ?_
        refine ev_iload_n d_E_sit_75 rfl rfl ?_
        refine ev_iload d_E_sit_76 rfl ?_
        refine ev_iload_n d_E_sit_78 rfl rfl ?_
        refine ev_callV (as := [vI a1, vI a4, vI a3]) (st := []) (k := 4) (i := 0) g_E_readOrStop ml_E_38 rfl rfl (by decide) (by decide) d_E_sit_79 rfl rfl (Nat.le_of_ble_eq_true rfl) rfl (Nat.le_of_ble_eq_true rfl) ?_
        refine Ev.mono K ?_
        rintro _ s5 ⟨rfl, K⟩
        show Ev none (d + 4) m_E_sit 82 [some (vR 4 0), some (vI a1), none, some (vI a3), some (vI a4)] [] s5 post
        refine ev_iinc (v := a4 + (1 : Int32)) (L' := [some (vR 4 0), some (vI a1), none, some (vI a3), some (vI (a4 + (1 : Int32)))]) d_E_sit_82 rfl (congrArg (a4 + ·) (by decide)) (by decide) rfl ?_
        refine ev_goto (tgt := 42) d_E_sit_85 rfl ?_
        exact K
set_option maxRecDepth 4000 in
theorem sg_S_findRests_0 {d : Nat} {σ : ST} {a1 : Int32} {a2 : Int32} {post : Option AV → ST → Prop} (K : Ev none (d + 4) m_S_findRests 2 [some (vR 6 0), some (vI a1), some (vI a2), some (vI (0 : Int32))] [] σ post) : Ev none (d + 4) m_S_findRests 0 [some (vR 6 0), some (vI a1), some (vI a2), none] [] σ post := by
  refine ev_iconst (v := 0) d_S_findRests_0 (by decide) ?_
  refine ev_istore_n (L' := [some (vR 6 0), some (vI a1), some (vI a2), some (vI (0 : Int32))]) d_S_findRests_1 rfl (by decide) rfl ?_
  exact K
set_option maxRecDepth 4000 in
theorem sg_S_findRests_2 {d : Nat} {σ : ST} {a1 : Int32} {a2 : Int32} {a3 : Int32} {post : Option AV → ST → Prop} (K : (((16 : Int32) ≤ a3) → (Ev none (d + 4) m_S_findRests 57 [some (vR 6 0), none, none, some (vI (0 : Int32))] [] (setI σ 6 0 4 (0 : Int32)) post)) ∧ (¬ ((16 : Int32) ≤ a3) → (Ev none (d + 3) m_S_gainOf 0 [some (vR 6 0), some (vI a1), some (vI a2), some (vI (a3 / (4 : Int32))), some (vI (irm a3 (4 : Int32))), none, none, none, none] [] σ (fun r s2 => ∃ z3 : Int32, r = some (vI z3) ∧ ((vp_in a3 16) ∧ (Ev none (d + 3) m_S_gainOf 0 [some (vR 6 0), some (vI a2), some (vI a1), some (vI (irm a3 (4 : Int32))), some (vI (a3 / (4 : Int32))), none, none, none, none] [] (setI s2 26 0 (a3.toNatClampNeg) z3) (fun r s5 => ∃ z6 : Int32, r = some (vI z6) ∧ ((vp_in a3 16) ∧ (Ev none (d + 4) m_S_findRests 2 [some (vR 6 0), some (vI a1), some (vI a2), some (vI (a3 + (1 : Int32)))] [] (setI s5 27 0 (a3.toNatClampNeg) z6) post))))))))) : Ev none (d + 4) m_S_findRests 2 [some (vR 6 0), some (vI a1), some (vI a2), some (vI a3)] [] σ post := by
  refine ev_iload_n d_S_findRests_2 rfl rfl ?_
  refine ev_bipush (v := 16) d_S_findRests_3 (by decide) ?_
  refine ev_icmp_ge (tgt := 50) d_S_findRests_5 rfl (fun h1 => ?_) (fun h1 => ?_)
  · replace K := K.1 h1
    refine ev_aload_n d_S_findRests_50 rfl rfl ?_
    refine ev_iconst (v := 0) d_S_findRests_51 (by decide) ?_
    refine ev_putI gp_S_21 rfl (by decide) d_S_findRests_52 ?_
    refine ev_iconst (v := 0) d_S_findRests_55 (by decide) ?_
    refine ev_istore_n (L' := [some (vR 6 0), some (vI a1), some (vI a2), some (vI (0 : Int32))]) d_S_findRests_56 rfl (by decide) rfl ?_
    exact Ev.wk (lsub_kp (lsub_sk (lsub_sk (lsub_kp (lsub_nil))))) K
  · replace K := K.2 h1
    refine ev_aload_n d_S_findRests_8 rfl rfl ?_
    refine ev_getR gf_S_11 rfl (by decide) d_S_findRests_9 ?_
    refine ev_iload_n d_S_findRests_12 rfl rfl ?_
    refine ev_aload_n d_S_findRests_13 rfl rfl ?_
    refine ev_iload_n d_S_findRests_14 rfl rfl ?_
    refine ev_iload_n d_S_findRests_15 rfl rfl ?_
    refine ev_iload_n d_S_findRests_16 rfl rfl ?_
    refine ev_iconst (v := 4) d_S_findRests_17 (by decide) ?_
    refine ev_idiv d_S_findRests_18 (by decide) ?_
    refine ev_iload_n d_S_findRests_19 rfl rfl ?_
    refine ev_iconst (v := 4) d_S_findRests_20 (by decide) ?_
    refine ev_irem d_S_findRests_21 (by decide) ?_
    refine ev_callV (as := [vI a1, vI a2, vI (a3 / (4 : Int32)), vI (irm a3 (4 : Int32))]) (st := [vI a3, vR 26 0]) (k := 6) (i := 0) g_S_gainOf ml_S_57 rfl rfl (by decide) (by decide) d_S_findRests_22 rfl rfl (Nat.le_of_ble_eq_true rfl) rfl (Nat.le_of_ble_eq_true rfl) ?_
    refine Ev.mono K ?_
    rintro _ s2 ⟨z3, rfl, K⟩
    show Ev none (d + 4) m_S_findRests 25 [some (vR 6 0), some (vI a1), some (vI a2), some (vI a3)] [vI z3, vI a3, vR 26 0] s2 post
    obtain ⟨q4, K⟩ := K
    refine ev_iast rfl (by decide) (by decide) q4 d_S_findRests_25 ?_
    refine ev_aload_n d_S_findRests_26 rfl rfl ?_
    refine ev_getR gf_S_15 rfl (by decide) d_S_findRests_27 ?_
    refine ev_iload_n d_S_findRests_30 rfl rfl ?_
    refine ev_aload_n d_S_findRests_31 rfl rfl ?_
    refine ev_iload_n d_S_findRests_32 rfl rfl ?_
    refine ev_iload_n d_S_findRests_33 rfl rfl ?_
    refine ev_iload_n d_S_findRests_34 rfl rfl ?_
    refine ev_iconst (v := 4) d_S_findRests_35 (by decide) ?_
    refine ev_irem d_S_findRests_36 (by decide) ?_
    refine ev_iload_n d_S_findRests_37 rfl rfl ?_
    refine ev_iconst (v := 4) d_S_findRests_38 (by decide) ?_
    refine ev_idiv d_S_findRests_39 (by decide) ?_
    refine ev_callV (as := [vI a2, vI a1, vI (irm a3 (4 : Int32)), vI (a3 / (4 : Int32))]) (st := [vI a3, vR 27 0]) (k := 6) (i := 0) g_S_gainOf ml_S_57 rfl rfl (by decide) (by decide) d_S_findRests_40 rfl rfl (Nat.le_of_ble_eq_true rfl) rfl (Nat.le_of_ble_eq_true rfl) ?_
    refine Ev.mono K ?_
    rintro _ s5 ⟨z6, rfl, K⟩
    show Ev none (d + 4) m_S_findRests 43 [some (vR 6 0), some (vI a1), some (vI a2), some (vI a3)] [vI z6, vI a3, vR 27 0] s5 post
    obtain ⟨q7, K⟩ := K
    refine ev_iast rfl (by decide) (by decide) q7 d_S_findRests_43 ?_
    refine ev_iinc (v := a3 + (1 : Int32)) (L' := [some (vR 6 0), some (vI a1), some (vI a2), some (vI (a3 + (1 : Int32)))]) d_S_findRests_44 rfl (congrArg (a3 + ·) (by decide)) (by decide) rfl ?_
    refine ev_goto (tgt := 2) d_S_findRests_47 rfl ?_
    exact K
set_option maxRecDepth 4000 in
theorem sg_S_findRests_57 {d : Nat} {σ : ST} {a3 : Int32} {post : Option AV → ST → Prop} (K : (((16 : Int32) ≤ a3) → (post none σ)) ∧ (¬ ((16 : Int32) ≤ a3) → (Ev none (d + 3) m_S_isRest 0 [some (vR 6 0), some (vI (a3 / (4 : Int32))), some (vI (irm a3 (4 : Int32))), none, none] [] σ (fun r s2 => ∃ z3 : Int32, r = some (vI z3) ∧ (((z3 = 0) → (Ev none (d + 4) m_S_findRests 57 [some (vR 6 0), none, none, some (vI (a3 + (1 : Int32)))] [] s2 post)) ∧ (¬ (z3 = 0) → ((vp_in (s2.1 6 0 4) 16) ∧ (Ev none (d + 4) m_S_findRests 57 [some (vR 6 0), none, none, some (vI (a3 + (1 : Int32)))] [] (setI (setI s2 28 0 ((s2.1 6 0 4).toNatClampNeg) a3) 6 0 4 (((setI s2 28 0 ((s2.1 6 0 4).toNatClampNeg) a3).1 6 0 4) + (1 : Int32))) post)))))))) : Ev none (d + 4) m_S_findRests 57 [some (vR 6 0), none, none, some (vI a3)] [] σ post := by
  refine ev_iload_n d_S_findRests_57 rfl rfl ?_
  refine ev_bipush (v := 16) d_S_findRests_58 (by decide) ?_
  refine ev_icmp_ge (tgt := 102) d_S_findRests_60 rfl (fun h1 => ?_) (fun h1 => ?_)
  · replace K := K.1 h1
    exact ev_ret (r := none) d_S_findRests_102 rfl rfl K
  · replace K := K.2 h1
    refine ev_aload_n d_S_findRests_63 rfl rfl ?_
    refine ev_iload_n d_S_findRests_64 rfl rfl ?_
    refine ev_iconst (v := 4) d_S_findRests_65 (by decide) ?_
    refine ev_idiv d_S_findRests_66 (by decide) ?_
    refine ev_iload_n d_S_findRests_67 rfl rfl ?_
    refine ev_iconst (v := 4) d_S_findRests_68 (by decide) ?_
    refine ev_irem d_S_findRests_69 (by decide) ?_
    refine ev_callV (as := [vI (a3 / (4 : Int32)), vI (irm a3 (4 : Int32))]) (st := []) (k := 6) (i := 0) g_S_isRest ml_S_61 rfl rfl (by decide) (by decide) d_S_findRests_70 rfl rfl (Nat.le_of_ble_eq_true rfl) rfl (Nat.le_of_ble_eq_true rfl) ?_
    refine Ev.mono K ?_
    rintro _ s2 ⟨z3, rfl, K⟩
    show Ev none (d + 4) m_S_findRests 73 [some (vR 6 0), none, none, some (vI a3)] [vI z3] s2 post
    refine ev_if_eq (tgt := 96) d_S_findRests_73 rfl (fun h5 => ?_) (fun h5 => ?_)
    · replace K := K.1 h5
      refine ev_iinc (v := a3 + (1 : Int32)) (L' := [some (vR 6 0), none, none, some (vI (a3 + (1 : Int32)))]) d_S_findRests_96 rfl (congrArg (a3 + ·) (by decide)) (by decide) rfl ?_
      refine ev_goto (tgt := 57) d_S_findRests_99 rfl ?_
      exact K
    · replace K := K.2 h5
      refine ev_aload_n d_S_findRests_76 rfl rfl ?_
      refine ev_getR gf_S_18 rfl (by decide) d_S_findRests_77 ?_
      refine ev_aload_n d_S_findRests_80 rfl rfl ?_
      refine ev_getI gf_S_21 rfl (by decide) d_S_findRests_81 ?_
      refine ev_iload_n d_S_findRests_84 rfl rfl ?_
      obtain ⟨q6, K⟩ := K
      refine ev_iast rfl (by decide) (by decide) q6 d_S_findRests_85 ?_
      refine ev_aload_n d_S_findRests_86 rfl rfl ?_
      refine ev_dup d_S_findRests_87 rfl ?_
      refine ev_getI gf_S_21 rfl (by decide) d_S_findRests_88 ?_
      refine ev_iconst (v := 1) d_S_findRests_91 (by decide) ?_
      refine ev_iadd d_S_findRests_92 ?_
      refine ev_putI gp_S_21 rfl (by decide) d_S_findRests_93 ?_
      refine ev_iinc (v := a3 + (1 : Int32)) (L' := [some (vR 6 0), none, none, some (vI (a3 + (1 : Int32)))]) d_S_findRests_96 rfl (congrArg (a3 + ·) (by decide)) (by decide) rfl ?_
      refine ev_goto (tgt := 57) d_S_findRests_99 rfl ?_
      exact K
set_option maxRecDepth 4000 in
theorem sg_T_seat_0 {d : Nat} {σ : ST} {a1 : Int32} {post : Option AV → ST → Prop} (K : Ev none (d + 4) m_T_seat 2 [some (vR 7 0), some (vI a1), some (vI (0 : Int32)), none, none] [] σ post) : Ev none (d + 4) m_T_seat 0 [some (vR 7 0), some (vI a1), none, none, none] [] σ post := by
  refine ev_iconst (v := 0) d_T_seat_0 (by decide) ?_
  refine ev_istore_n (L' := [some (vR 7 0), some (vI a1), some (vI (0 : Int32)), none, none]) d_T_seat_1 rfl (by decide) rfl ?_
  exact K
set_option maxRecDepth 4000 in
theorem sg_T_seat_2 {d : Nat} {σ : ST} {a1 : Int32} {a2 : Int32} {post : Option AV → ST → Prop} (K : (((6 : Int32) ≤ a2) → (Ev none (d + 4) m_T_seat 59 [some (vR 7 0), some (vI a1), some (vI (1 : Int32)), none, none] [] (setI σ 30 0 ((0 : Int32).toNatClampNeg) (0 : Int32)) post)) ∧ (¬ ((6 : Int32) ≤ a2) → (Ev none (d + 4) m_T_seat 12 [some (vR 7 0), some (vI a1), some (vI a2), some (vI (a2 + (1 : Int32))), none] [] σ post))) : Ev none (d + 4) m_T_seat 2 [some (vR 7 0), some (vI a1), some (vI a2), none, none] [] σ post := by
  refine ev_iload_n d_T_seat_2 rfl rfl ?_
  refine ev_bipush (v := 6) d_T_seat_3 (by decide) ?_
  refine ev_icmp_ge (tgt := 50) d_T_seat_5 rfl (fun h1 => ?_) (fun h1 => ?_)
  · replace K := K.1 h1
    refine ev_aload_n d_T_seat_50 rfl rfl ?_
    refine ev_getR gf_T_15 rfl (by decide) d_T_seat_51 ?_
    refine ev_iconst (v := 0) d_T_seat_54 (by decide) ?_
    refine ev_iconst (v := 0) d_T_seat_55 (by decide) ?_
    refine ev_iast rfl (by decide) (by decide) (by unfold vp_in; decide) d_T_seat_56 ?_
    refine ev_iconst (v := 1) d_T_seat_57 (by decide) ?_
    refine ev_istore_n (L' := [some (vR 7 0), some (vI a1), some (vI (1 : Int32)), none, none]) d_T_seat_58 rfl (by decide) rfl ?_
    exact K
  · replace K := K.2 h1
    refine ev_iload_n d_T_seat_8 rfl rfl ?_
    refine ev_iconst (v := 1) d_T_seat_9 (by decide) ?_
    refine ev_iadd d_T_seat_10 ?_
    refine ev_istore_n (L' := [some (vR 7 0), some (vI a1), some (vI a2), some (vI (a2 + (1 : Int32))), none]) d_T_seat_11 rfl (by decide) rfl ?_
    exact K
set_option maxRecDepth 4000 in
theorem sg_T_seat_12 {d : Nat} {σ : ST} {a1 : Int32} {a2 : Int32} {a3 : Int32} {post : Option AV → ST → Prop} (K : (((6 : Int32) ≤ a3) → (Ev none (d + 4) m_T_seat 2 [some (vR 7 0), some (vI a1), some (vI (a2 + (1 : Int32))), none, none] [] σ post)) ∧ (¬ ((6 : Int32) ≤ a3) → (Ev none (d + 3) m_C_waitOfTwo 0 [some (vR 2 0), some (vI a2), some (vI a3), none, none] [] σ (fun r s2 => ∃ z3 : Int32, r = some (vI z3) ∧ ((vp_in (((6 : Int32) * a2) + a3) 36) ∧ (Ev none (d + 4) m_T_seat 12 [some (vR 7 0), some (vI a1), some (vI a2), some (vI (a3 + (1 : Int32))), none] [] (setI s2 29 0 ((((6 : Int32) * a2) + a3).toNatClampNeg) z3) post)))))) : Ev none (d + 4) m_T_seat 12 [some (vR 7 0), some (vI a1), some (vI a2), some (vI a3), none] [] σ post := by
  refine ev_iload_n d_T_seat_12 rfl rfl ?_
  refine ev_bipush (v := 6) d_T_seat_13 (by decide) ?_
  refine ev_icmp_ge (tgt := 44) d_T_seat_15 rfl (fun h1 => ?_) (fun h1 => ?_)
  · replace K := K.1 h1
    refine ev_iinc (v := a2 + (1 : Int32)) (L' := [some (vR 7 0), some (vI a1), some (vI (a2 + (1 : Int32))), some (vI a3), none]) d_T_seat_44 rfl (congrArg (a2 + ·) (by decide)) (by decide) rfl ?_
    refine ev_goto (tgt := 2) d_T_seat_47 rfl ?_
    exact Ev.wk (lsub_kp (lsub_kp (lsub_kp (lsub_sk (lsub_sk (lsub_nil)))))) K
  · replace K := K.2 h1
    refine ev_aload_n d_T_seat_18 rfl rfl ?_
    refine ev_getR gf_T_9 rfl (by decide) d_T_seat_19 ?_
    refine ev_bipush (v := 6) d_T_seat_22 (by decide) ?_
    refine ev_iload_n d_T_seat_24 rfl rfl ?_
    refine ev_imul d_T_seat_25 ?_
    refine ev_iload_n d_T_seat_26 rfl rfl ?_
    refine ev_iadd d_T_seat_27 ?_
    refine ev_aload_n d_T_seat_28 rfl rfl ?_
    refine ev_getR gf_T_25 rfl (by decide) d_T_seat_29 ?_
    refine ev_iload_n d_T_seat_32 rfl rfl ?_
    refine ev_iload_n d_T_seat_33 rfl rfl ?_
    refine ev_callV (as := [vI a2, vI a3]) (st := [vI (((6 : Int32) * a2) + a3), vR 29 0]) (k := 2) (i := 0) g_C_waitOfTwo ml_T_29 rfl rfl (by decide) (by decide) d_T_seat_34 rfl rfl (Nat.le_of_ble_eq_true rfl) rfl (Nat.le_of_ble_eq_true rfl) ?_
    refine Ev.mono K ?_
    rintro _ s2 ⟨z3, rfl, K⟩
    show Ev none (d + 4) m_T_seat 37 [some (vR 7 0), some (vI a1), some (vI a2), some (vI a3), none] [vI z3, vI (((6 : Int32) * a2) + a3), vR 29 0] s2 post
    obtain ⟨q4, K⟩ := K
    refine ev_iast rfl (by decide) (by decide) q4 d_T_seat_37 ?_
    refine ev_iinc (v := a3 + (1 : Int32)) (L' := [some (vR 7 0), some (vI a1), some (vI a2), some (vI (a3 + (1 : Int32))), none]) d_T_seat_38 rfl (congrArg (a3 + ·) (by decide)) (by decide) rfl ?_
    refine ev_goto (tgt := 12) d_T_seat_41 rfl ?_
    exact K
set_option maxRecDepth 4000 in
theorem sg_T_seat_59 {d : Nat} {σ : ST} {a1 : Int32} {a2 : Int32} {post : Option AV → ST → Prop} (K : ((a1 < a2) → ((vp_in a1 64) ∧ (Ev none (d + 4) m_T_seat 107 [some (vR 7 0), none, some (vI a1), some (vI (0 : Int32)), none] [] (setI σ 7 0 4 (σ.1 30 0 (a1.toNatClampNeg))) post))) ∧ (¬ (a1 < a2) → (Ev none (d + 3) m_T_leastOf 0 [some (vI a2), none] [] σ (fun r s3 => ∃ z4 : Int32, r = some (vI z4) ∧ (Ev none (d + 3) m_T_leastPartner 0 [some (vR 7 0), some (vI a2), some (vI z4), none, none] [] s3 (fun r s5 => ∃ z6 : Int32, r = some (vI z6) ∧ ((fs_T_waitWith s5 a2 z4 z6) ∧ ((vp_in a2 64) ∧ (Ev none (d + 4) m_T_seat 59 [some (vR 7 0), some (vI a1), some (vI (a2 + (1 : Int32))), none, none] [] (setI s5 30 0 (a2.toNatClampNeg) (fn_T_waitWith s5 a2 z4 z6)) post))))))))) : Ev none (d + 4) m_T_seat 59 [some (vR 7 0), some (vI a1), some (vI a2), none, none] [] σ post := by
  refine ev_iload_n d_T_seat_59 rfl rfl ?_
  refine ev_iload_n d_T_seat_60 rfl rfl ?_
  refine ev_icmp_gt (tgt := 93) d_T_seat_61 rfl (fun h1 => ?_) (fun h1 => ?_)
  · replace K := K.1 h1
    refine ev_aload_n d_T_seat_93 rfl rfl ?_
    refine ev_aload_n d_T_seat_94 rfl rfl ?_
    refine ev_getR gf_T_15 rfl (by decide) d_T_seat_95 ?_
    refine ev_iload_n d_T_seat_98 rfl rfl ?_
    obtain ⟨q2, K⟩ := K
    refine ev_iald rfl (by decide) (by decide) q2 d_T_seat_99 ?_
    refine ev_putI gp_T_21 rfl (by decide) d_T_seat_100 ?_
    refine ev_iload_n d_T_seat_103 rfl rfl ?_
    refine ev_istore_n (L' := [some (vR 7 0), some (vI a1), some (vI a1), none, none]) d_T_seat_104 rfl (by decide) rfl ?_
    refine ev_iconst (v := 0) d_T_seat_105 (by decide) ?_
    refine ev_istore_n (L' := [some (vR 7 0), some (vI a1), some (vI a1), some (vI (0 : Int32)), none]) d_T_seat_106 rfl (by decide) rfl ?_
    exact Ev.wk (lsub_kp (lsub_sk (lsub_kp (lsub_kp (lsub_sk (lsub_nil)))))) K
  · replace K := K.2 h1
    refine ev_iload_n d_T_seat_64 rfl rfl ?_
    refine ev_callS (as := [vI a2]) (st := []) g_T_leastOf ml_T_35 d_T_seat_65 rfl rfl (Nat.le_of_ble_eq_true rfl) rfl (Nat.le_of_ble_eq_true rfl) ?_
    refine Ev.mono K ?_
    rintro _ s3 ⟨z4, rfl, K⟩
    show Ev none (d + 4) m_T_seat 68 [some (vR 7 0), some (vI a1), some (vI a2), none, none] [vI z4] s3 post
    refine ev_istore_n (L' := [some (vR 7 0), some (vI a1), some (vI a2), some (vI z4), none]) d_T_seat_68 rfl (by decide) rfl ?_
    refine ev_aload_n d_T_seat_69 rfl rfl ?_
    refine ev_getR gf_T_15 rfl (by decide) d_T_seat_70 ?_
    refine ev_iload_n d_T_seat_73 rfl rfl ?_
    refine ev_aload_n d_T_seat_74 rfl rfl ?_
    refine ev_iload_n d_T_seat_75 rfl rfl ?_
    refine ev_iload_n d_T_seat_76 rfl rfl ?_
    refine ev_aload_n d_T_seat_77 rfl rfl ?_
    refine ev_iload_n d_T_seat_78 rfl rfl ?_
    refine ev_iload_n d_T_seat_79 rfl rfl ?_
    refine ev_callV (as := [vI a2, vI z4]) (st := [vI z4, vI a2, vR 7 0, vI a2, vR 30 0]) (k := 7) (i := 0) g_T_leastPartner ml_T_39 rfl rfl (by decide) (by decide) d_T_seat_80 rfl rfl (Nat.le_of_ble_eq_true rfl) rfl (Nat.le_of_ble_eq_true rfl) ?_
    refine Ev.mono K ?_
    rintro _ s5 ⟨z6, rfl, K⟩
    show Ev none (d + 4) m_T_seat 83 [some (vR 7 0), some (vI a1), some (vI a2), some (vI z4), none] [vI z6, vI z4, vI a2, vR 7 0, vI a2, vR 30 0] s5 post
    obtain ⟨q7, K⟩ := K
    refine ev_callV (as := [vI a2, vI z4, vI z6]) (st := [vI a2, vR 30 0]) (k := 7) (i := 0) g_T_waitWith ml_T_42 rfl rfl (by decide) (by decide) d_T_seat_83 rfl rfl (Nat.le_of_ble_eq_true rfl) rfl (Nat.le_of_ble_eq_true rfl) ?_
    refine f_T_waitWith q7 ?_
    show Ev none (d + 4) m_T_seat 86 [some (vR 7 0), some (vI a1), some (vI a2), some (vI z4), none] [vI (fn_T_waitWith s5 a2 z4 z6), vI a2, vR 30 0] s5 post
    obtain ⟨q8, K⟩ := K
    refine ev_iast rfl (by decide) (by decide) q8 d_T_seat_86 ?_
    refine ev_iinc (v := a2 + (1 : Int32)) (L' := [some (vR 7 0), some (vI a1), some (vI (a2 + (1 : Int32))), some (vI z4), none]) d_T_seat_87 rfl (congrArg (a2 + ·) (by decide)) (by decide) rfl ?_
    refine ev_goto (tgt := 59) d_T_seat_90 rfl ?_
    exact Ev.wk (lsub_kp (lsub_kp (lsub_kp (lsub_sk (lsub_sk (lsub_nil)))))) K
set_option maxRecDepth 4000 in
theorem sg_T_seat_107 {d : Nat} {σ : ST} {a2 : Int32} {a3 : Int32} {post : Option AV → ST → Prop} (K : (((6 : Int32) ≤ a3) → (post none σ)) ∧ (¬ ((6 : Int32) ≤ a3) → (((fp_O_holds σ a2 a3) → (Ev none (d + 3) m_T_leastPartner 0 [some (vR 7 0), some (vI a2), some (vI a3), none, none] [] σ (fun r s3 => ∃ z4 : Int32, r = some (vI z4) ∧ ((vp_in a3 6) ∧ ((vp_in z4 6) ∧ (Ev none (d + 4) m_T_seat 107 [some (vR 7 0), none, some (vI (fn_T_without (setI (setI s3 31 0 (a3.toNatClampNeg) z4) 31 0 (z4.toNatClampNeg) a3) a2 a3 z4)), some (vI (a3 + (1 : Int32))), none] [] (setI (setI s3 31 0 (a3.toNatClampNeg) z4) 31 0 (z4.toNatClampNeg) a3) post)))))) ∧ (¬ (fp_O_holds σ a2 a3) → (Ev none (d + 4) m_T_seat 107 [some (vR 7 0), none, some (vI a2), some (vI (a3 + (1 : Int32))), none] [] σ post))))) : Ev none (d + 4) m_T_seat 107 [some (vR 7 0), none, some (vI a2), some (vI a3), none] [] σ post := by
  refine ev_iload_n d_T_seat_107 rfl rfl ?_
  refine ev_bipush (v := 6) d_T_seat_108 (by decide) ?_
  refine ev_icmp_ge (tgt := 159) d_T_seat_110 rfl (fun h1 => ?_) (fun h1 => ?_)
  · replace K := K.1 h1
    exact ev_ret (r := none) d_T_seat_159 rfl rfl K
  · replace K := K.2 h1
    refine ev_iload_n d_T_seat_113 rfl rfl ?_
    refine ev_iload_n d_T_seat_114 rfl rfl ?_
    refine ev_callN (as := [vI a2, vI a3]) (st := []) g_O_holds ml_T_46 d_T_seat_115 rfl rfl (Nat.le_of_ble_eq_true rfl) rfl (Nat.le_of_ble_eq_true rfl) ?_
    refine f_O_holds  ?_
    show Ev none (d + 4) m_T_seat 118 [some (vR 7 0), none, some (vI a2), some (vI a3), none] [vI (bi (fp_O_holds σ a2 a3))] σ post
    refine ev_ifb_eq (tgt := 153) d_T_seat_118 rfl (fun h2 => ?_) (fun h2 => ?_)
    · replace K := K.2 h2
      refine ev_iinc (v := a3 + (1 : Int32)) (L' := [some (vR 7 0), none, some (vI a2), some (vI (a3 + (1 : Int32))), none]) d_T_seat_153 rfl (congrArg (a3 + ·) (by decide)) (by decide) rfl ?_
      refine ev_goto (tgt := 107) d_T_seat_156 rfl ?_
      exact K
    · replace K := K.1 h2
      refine ev_aload_n d_T_seat_121 rfl rfl ?_
      refine ev_iload_n d_T_seat_122 rfl rfl ?_
      refine ev_iload_n d_T_seat_123 rfl rfl ?_
      refine ev_callV (as := [vI a2, vI a3]) (st := []) (k := 7) (i := 0) g_T_leastPartner ml_T_39 rfl rfl (by decide) (by decide) d_T_seat_124 rfl rfl (Nat.le_of_ble_eq_true rfl) rfl (Nat.le_of_ble_eq_true rfl) ?_
      refine Ev.mono K ?_
      rintro _ s3 ⟨z4, rfl, K⟩
      show Ev none (d + 4) m_T_seat 127 [some (vR 7 0), none, some (vI a2), some (vI a3), none] [vI z4] s3 post
      refine ev_istore (L' := [some (vR 7 0), none, some (vI a2), some (vI a3), some (vI z4)]) d_T_seat_127 (by decide) rfl ?_
      refine ev_aload_n d_T_seat_129 rfl rfl ?_
      refine ev_getR gf_T_18 rfl (by decide) d_T_seat_130 ?_
      refine ev_iload_n d_T_seat_133 rfl rfl ?_
      refine ev_iload d_T_seat_134 rfl ?_
      obtain ⟨q5, K⟩ := K
      refine ev_iast rfl (by decide) (by decide) q5 d_T_seat_136 ?_
      refine ev_aload_n d_T_seat_137 rfl rfl ?_
      refine ev_getR gf_T_18 rfl (by decide) d_T_seat_138 ?_
      refine ev_iload d_T_seat_141 rfl ?_
      refine ev_iload_n d_T_seat_143 rfl rfl ?_
      obtain ⟨q6, K⟩ := K
      refine ev_iast rfl (by decide) (by decide) q6 d_T_seat_144 ?_
      refine ev_iload_n d_T_seat_145 rfl rfl ?_
      refine ev_iload_n d_T_seat_146 rfl rfl ?_
      refine ev_iload d_T_seat_147 rfl ?_
      refine ev_callS (as := [vI a2, vI a3, vI z4]) (st := []) g_T_without ml_T_50 d_T_seat_149 rfl rfl (Nat.le_of_ble_eq_true rfl) rfl (Nat.le_of_ble_eq_true rfl) ?_
      refine f_T_without  ?_
      show Ev none (d + 4) m_T_seat 152 [some (vR 7 0), none, some (vI a2), some (vI a3), some (vI z4)] [vI (fn_T_without (setI (setI s3 31 0 (a3.toNatClampNeg) z4) 31 0 (z4.toNatClampNeg) a3) a2 a3 z4)] (setI (setI s3 31 0 (a3.toNatClampNeg) z4) 31 0 (z4.toNatClampNeg) a3) post
      refine ev_istore_n (L' := [some (vR 7 0), none, some (vI (fn_T_without (setI (setI s3 31 0 (a3.toNatClampNeg) z4) 31 0 (z4.toNatClampNeg) a3) a2 a3 z4)), some (vI a3), some (vI z4)]) d_T_seat_152 rfl (by decide) rfl ?_
      refine ev_iinc (v := a3 + (1 : Int32)) (L' := [some (vR 7 0), none, some (vI (fn_T_without (setI (setI s3 31 0 (a3.toNatClampNeg) z4) 31 0 (z4.toNatClampNeg) a3) a2 a3 z4)), some (vI (a3 + (1 : Int32))), some (vI z4)]) d_T_seat_153 rfl (congrArg (a3 + ·) (by decide)) (by decide) rfl ?_
      refine ev_goto (tgt := 107) d_T_seat_156 rfl ?_
      exact Ev.wk (lsub_kp (lsub_sk (lsub_kp (lsub_kp (lsub_sk (lsub_nil)))))) K
set_option maxRecDepth 4000 in
theorem sg_U_fitsAll_0 {d : Nat} {σ : ST} {a1 : Int32} {a2 : Int32} {a3 : Int32} {post : Option AV → ST → Prop} (K : Ev none (d + 4) m_U_fitsAll 3 [some (vR 8 0), some (vI a1), some (vI a2), some (vI a3), some (vI (0 : Int32)), none, none] [] σ post) : Ev none (d + 4) m_U_fitsAll 0 [some (vR 8 0), some (vI a1), some (vI a2), some (vI a3), none, none, none] [] σ post := by
  refine ev_iconst (v := 0) d_U_fitsAll_0 (by decide) ?_
  refine ev_istore (L' := [some (vR 8 0), some (vI a1), some (vI a2), some (vI a3), some (vI (0 : Int32)), none, none]) d_U_fitsAll_1 (by decide) rfl ?_
  exact K
set_option maxRecDepth 4000 in
theorem sg_U_fitsAll_3 {d : Nat} {σ : ST} {a1 : Int32} {a2 : Int32} {a3 : Int32} {a4 : Int32} {post : Option AV → ST → Prop} (K : (((σ.1 8 0 4) ≤ a4) → (post (some (vI (1 : Int32))) σ)) ∧ (¬ ((σ.1 8 0 4) ≤ a4) → ((fs_U_tellsOf σ a4 a1 a2) ∧ (((fp_U_tellsOf σ a4 a1 a2) → ((vp_in a4 8) ∧ ((vp_in a4 8) ∧ (Ev none (d + 3) m_C_together 0 [some (vR 2 0), some (vI ((σ.1 33 0 (a4.toNatClampNeg)) &&& ((isl (1 : Int32) a1) ^^^ (-1 : Int32)))), some (vI (σ.1 32 0 (a4.toNatClampNeg))), none, none, none] [] σ (fun r s6 => ∃ z7 : Int32, r = some (vI z7) ∧ ((vp_in a4 8) ∧ ((fs_C_minutesAt s6 a1 (s6.1 32 0 (a4.toNatClampNeg)) a3) ∧ ((vp_in a4 8) ∧ ((((imax z7 (fn_C_minutesAt s6 a1 (s6.1 32 0 (a4.toNatClampNeg)) a3)) = (s6.1 34 0 (a4.toNatClampNeg))) → (Ev none (d + 4) m_U_fitsAll 3 [some (vR 8 0), some (vI a1), some (vI a2), some (vI a3), some (vI (a4 + (1 : Int32))), none, none] [] s6 post)) ∧ (¬ ((imax z7 (fn_C_minutesAt s6 a1 (s6.1 32 0 (a4.toNatClampNeg)) a3)) = (s6.1 34 0 (a4.toNatClampNeg))) → (post (some (vI (0 : Int32))) s6))))))))))) ∧ (¬ (fp_U_tellsOf σ a4 a1 a2) → (Ev none (d + 4) m_U_fitsAll 3 [some (vR 8 0), some (vI a1), some (vI a2), some (vI a3), some (vI (a4 + (1 : Int32))), none, none] [] σ post)))))) : Ev none (d + 4) m_U_fitsAll 3 [some (vR 8 0), some (vI a1), some (vI a2), some (vI a3), some (vI a4), none, none] [] σ post := by
  refine ev_iload d_U_fitsAll_3 rfl ?_
  refine ev_aload_n d_U_fitsAll_5 rfl rfl ?_
  refine ev_getI gf_U_21 rfl (by decide) d_U_fitsAll_6 ?_
  refine ev_icmp_ge (tgt := 95) d_U_fitsAll_9 rfl (fun h1 => ?_) (fun h1 => ?_)
  · replace K := K.1 h1
    refine ev_iconst (v := 1) d_U_fitsAll_95 (by decide) ?_
    exact ev_ret (r := some (vI (1 : Int32))) d_U_fitsAll_96 rfl ⟨rfl, (by decide)⟩ K
  · replace K := K.2 h1
    refine ev_aload_n d_U_fitsAll_12 rfl rfl ?_
    refine ev_iload d_U_fitsAll_13 rfl ?_
    refine ev_iload_n d_U_fitsAll_15 rfl rfl ?_
    refine ev_iload_n d_U_fitsAll_16 rfl rfl ?_
    obtain ⟨q2, K⟩ := K
    refine ev_callV (as := [vI a4, vI a1, vI a2]) (st := []) (k := 8) (i := 0) g_U_tellsOf ml_U_43 rfl rfl (by decide) (by decide) d_U_fitsAll_17 rfl rfl (Nat.le_of_ble_eq_true rfl) rfl (Nat.le_of_ble_eq_true rfl) ?_
    refine f_U_tellsOf q2 ?_
    show Ev none (d + 4) m_U_fitsAll 20 [some (vR 8 0), some (vI a1), some (vI a2), some (vI a3), some (vI a4), none, none] [vI (bi (fp_U_tellsOf σ a4 a1 a2))] σ post
    refine ev_ifb_eq (tgt := 89) d_U_fitsAll_20 rfl (fun h3 => ?_) (fun h3 => ?_)
    · replace K := K.2 h3
      refine ev_iinc (v := a4 + (1 : Int32)) (L' := [some (vR 8 0), some (vI a1), some (vI a2), some (vI a3), some (vI (a4 + (1 : Int32))), none, none]) d_U_fitsAll_89 rfl (congrArg (a4 + ·) (by decide)) (by decide) rfl ?_
      refine ev_goto (tgt := 3) d_U_fitsAll_92 rfl ?_
      exact K
    · replace K := K.1 h3
      refine ev_aload_n d_U_fitsAll_23 rfl rfl ?_
      refine ev_getR gf_U_25 rfl (by decide) d_U_fitsAll_24 ?_
      refine ev_aload_n d_U_fitsAll_27 rfl rfl ?_
      refine ev_getR gf_U_15 rfl (by decide) d_U_fitsAll_28 ?_
      refine ev_iload d_U_fitsAll_31 rfl ?_
      obtain ⟨q4, K⟩ := K
      refine ev_iald rfl (by decide) (by decide) q4 d_U_fitsAll_33 ?_
      refine ev_iconst (v := 1) d_U_fitsAll_34 (by decide) ?_
      refine ev_iload_n d_U_fitsAll_35 rfl rfl ?_
      refine ev_ishl d_U_fitsAll_36 ?_
      refine ev_iconst (v := -1) d_U_fitsAll_37 (by decide) ?_
      refine ev_ixor d_U_fitsAll_38 ?_
      refine ev_iand d_U_fitsAll_39 ?_
      refine ev_aload_n d_U_fitsAll_40 rfl rfl ?_
      refine ev_getR gf_U_11 rfl (by decide) d_U_fitsAll_41 ?_
      refine ev_iload d_U_fitsAll_44 rfl ?_
      obtain ⟨q5, K⟩ := K
      refine ev_iald rfl (by decide) (by decide) q5 d_U_fitsAll_46 ?_
      refine ev_callV (as := [vI ((σ.1 33 0 (a4.toNatClampNeg)) &&& ((isl (1 : Int32) a1) ^^^ (-1 : Int32))), vI (σ.1 32 0 (a4.toNatClampNeg))]) (st := []) (k := 2) (i := 0) g_C_together ml_U_33 rfl rfl (by decide) (by decide) d_U_fitsAll_47 rfl rfl (Nat.le_of_ble_eq_true rfl) rfl (Nat.le_of_ble_eq_true rfl) ?_
      refine Ev.mono K ?_
      rintro _ s6 ⟨z7, rfl, K⟩
      show Ev none (d + 4) m_U_fitsAll 50 [some (vR 8 0), some (vI a1), some (vI a2), some (vI a3), some (vI a4), none, none] [vI z7] s6 post
      refine ev_istore (L' := [some (vR 8 0), some (vI a1), some (vI a2), some (vI a3), some (vI a4), some (vI z7), none]) d_U_fitsAll_50 (by decide) rfl ?_
      refine ev_aload_n d_U_fitsAll_52 rfl rfl ?_
      refine ev_getR gf_U_25 rfl (by decide) d_U_fitsAll_53 ?_
      refine ev_iload_n d_U_fitsAll_56 rfl rfl ?_
      refine ev_aload_n d_U_fitsAll_57 rfl rfl ?_
      refine ev_getR gf_U_11 rfl (by decide) d_U_fitsAll_58 ?_
      refine ev_iload d_U_fitsAll_61 rfl ?_
      obtain ⟨q8, K⟩ := K
      refine ev_iald rfl (by decide) (by decide) q8 d_U_fitsAll_63 ?_
      refine ev_iload_n d_U_fitsAll_64 rfl rfl ?_
      obtain ⟨q9, K⟩ := K
      refine ev_callV (as := [vI a1, vI (s6.1 32 0 (a4.toNatClampNeg)), vI a3]) (st := []) (k := 2) (i := 0) g_C_minutesAt ml_U_46 rfl rfl (by decide) (by decide) d_U_fitsAll_65 rfl rfl (Nat.le_of_ble_eq_true rfl) rfl (Nat.le_of_ble_eq_true rfl) ?_
      refine f_C_minutesAt q9 ?_
      show Ev none (d + 4) m_U_fitsAll 68 [some (vR 8 0), some (vI a1), some (vI a2), some (vI a3), some (vI a4), some (vI z7), none] [vI (fn_C_minutesAt s6 a1 (s6.1 32 0 (a4.toNatClampNeg)) a3)] s6 post
      refine ev_istore (L' := [some (vR 8 0), some (vI a1), some (vI a2), some (vI a3), some (vI a4), some (vI z7), some (vI (fn_C_minutesAt s6 a1 (s6.1 32 0 (a4.toNatClampNeg)) a3))]) d_U_fitsAll_68 (by decide) rfl ?_
      refine ev_iload d_U_fitsAll_70 rfl ?_
      refine ev_iload d_U_fitsAll_72 rfl ?_
      refine ev_mmax ml_U_50 (Nat.le_of_ble_eq_true rfl) d_U_fitsAll_74 ?_
      refine ev_aload_n d_U_fitsAll_77 rfl rfl ?_
      refine ev_getR gf_U_18 rfl (by decide) d_U_fitsAll_78 ?_
      refine ev_iload d_U_fitsAll_81 rfl ?_
      obtain ⟨q10, K⟩ := K
      refine ev_iald rfl (by decide) (by decide) q10 d_U_fitsAll_83 ?_
      refine ev_icmp_eq (tgt := 89) d_U_fitsAll_84 rfl (fun h11 => ?_) (fun h11 => ?_)
      · replace K := K.1 h11
        refine ev_iinc (v := a4 + (1 : Int32)) (L' := [some (vR 8 0), some (vI a1), some (vI a2), some (vI a3), some (vI (a4 + (1 : Int32))), some (vI z7), some (vI (fn_C_minutesAt s6 a1 (s6.1 32 0 (a4.toNatClampNeg)) a3))]) d_U_fitsAll_89 rfl (congrArg (a4 + ·) (by decide)) (by decide) rfl ?_
        refine ev_goto (tgt := 3) d_U_fitsAll_92 rfl ?_
        exact Ev.wk (lsub_kp (lsub_kp (lsub_kp (lsub_kp (lsub_kp (lsub_sk (lsub_sk (lsub_nil)))))))) K
      · replace K := K.2 h11
        refine ev_iconst (v := 0) d_U_fitsAll_87 (by decide) ?_
        exact ev_ret (r := some (vI (0 : Int32))) d_U_fitsAll_88 rfl ⟨rfl, (by decide)⟩ K
set_option maxRecDepth 4000 in
theorem sg_D_chanceBy_0 {d : Nat} {σ : ST} {a1 : Int32} {a2 : Int32} {post : Option AV → ST → Prop} (K : Ev none (d + 3) m_D_longestOf 0 [some (vR 9 0), some (vI a1), none, none] [] σ (fun r s1 => ∃ z2 : Int32, r = some (vI z2) ∧ (Ev none (d + 4) m_D_chanceBy 16 [some (vR 9 0), some (vI a1), none, some (vI (imin a2 z2)), some (vJ (1 : Int64)), none, some (vI (0 : Int32)), none, none] [] s1 post))) : Ev none (d + 4) m_D_chanceBy 0 [some (vR 9 0), some (vI a1), some (vI a2), none, none, none, none, none, none] [] σ post := by
  refine ev_iload_n d_D_chanceBy_0 rfl rfl ?_
  refine ev_aload_n d_D_chanceBy_1 rfl rfl ?_
  refine ev_iload_n d_D_chanceBy_2 rfl rfl ?_
  refine ev_callV (as := [vI a1]) (st := [vI a2]) (k := 9) (i := 0) g_D_longestOf ml_D_43 rfl rfl (by decide) (by decide) d_D_chanceBy_3 rfl rfl (Nat.le_of_ble_eq_true rfl) rfl (Nat.le_of_ble_eq_true rfl) ?_
  refine Ev.mono K ?_
  rintro _ s1 ⟨z2, rfl, K⟩
  show Ev none (d + 4) m_D_chanceBy 6 [some (vR 9 0), some (vI a1), some (vI a2), none, none, none, none, none, none] [vI z2, vI a2] s1 post
  refine ev_mmin ml_D_47 (Nat.le_of_ble_eq_true rfl) d_D_chanceBy_6 ?_
  refine ev_istore_n (L' := [some (vR 9 0), some (vI a1), some (vI a2), some (vI (imin a2 z2)), none, none, none, none, none]) d_D_chanceBy_9 rfl (by decide) rfl ?_
  refine ev_lconst (v := 1) d_D_chanceBy_10 (by decide) ?_
  refine ev_lstore (L' := [some (vR 9 0), some (vI a1), some (vI a2), some (vI (imin a2 z2)), some (vJ (1 : Int64)), none, none, none, none]) d_D_chanceBy_11 (by decide) rfl ?_
  refine ev_iconst (v := 0) d_D_chanceBy_13 (by decide) ?_
  refine ev_istore (L' := [some (vR 9 0), some (vI a1), some (vI a2), some (vI (imin a2 z2)), some (vJ (1 : Int64)), none, some (vI (0 : Int32)), none, none]) d_D_chanceBy_14 (by decide) rfl ?_
  exact Ev.wk (lsub_kp (lsub_kp (lsub_sk (lsub_kp (lsub_kp (lsub_sk (lsub_kp (lsub_sk (lsub_sk (lsub_nil)))))))))) K
set_option maxRecDepth 4000 in
theorem sg_D_chanceBy_16 {d : Nat} {σ : ST} {a1 : Int32} {a3 : Int32} {a4 : Int64} {a6 : Int32} {post : Option AV → ST → Prop} (K : ((a3 < a6) → (Ev none (d + 4) m_D_chanceBy 46 [some (vR 9 0), some (vI a1), none, some (vI a3), some (vJ a4), none, some (vI (0 : Int32)), none, none] [] (setJ σ 35 0 ((0 : Int32).toNatClampNeg) (1 : Int64)) post)) ∧ (¬ (a3 < a6) → ((vp_in a6 3169) ∧ (Ev none (d + 4) m_D_chanceBy 16 [some (vR 9 0), some (vI a1), none, some (vI a3), some (vJ a4), none, some (vI (a6 + (1 : Int32))), none, none] [] (setJ σ 35 0 (a6.toNatClampNeg) (0 : Int64)) post)))) : Ev none (d + 4) m_D_chanceBy 16 [some (vR 9 0), some (vI a1), none, some (vI a3), some (vJ a4), none, some (vI a6), none, none] [] σ post := by
  refine ev_iload d_D_chanceBy_16 rfl ?_
  refine ev_iload_n d_D_chanceBy_18 rfl rfl ?_
  refine ev_icmp_gt (tgt := 36) d_D_chanceBy_19 rfl (fun h2 => ?_) (fun h2 => ?_)
  · replace K := K.1 h2
    refine ev_aload_n d_D_chanceBy_36 rfl rfl ?_
    refine ev_getR gf_D_11 rfl (by decide) d_D_chanceBy_37 ?_
    refine ev_iconst (v := 0) d_D_chanceBy_40 (by decide) ?_
    refine ev_lconst (v := 1) d_D_chanceBy_41 (by decide) ?_
    refine ev_last rfl (by decide) (by decide) (by unfold vp_in; decide) d_D_chanceBy_42 ?_
    refine ev_iconst (v := 0) d_D_chanceBy_43 (by decide) ?_
    refine ev_istore (L' := [some (vR 9 0), some (vI a1), none, some (vI a3), some (vJ a4), none, some (vI (0 : Int32)), none, none]) d_D_chanceBy_44 (by decide) rfl ?_
    exact K
  · replace K := K.2 h2
    refine ev_aload_n d_D_chanceBy_22 rfl rfl ?_
    refine ev_getR gf_D_11 rfl (by decide) d_D_chanceBy_23 ?_
    refine ev_iload d_D_chanceBy_26 rfl ?_
    refine ev_lconst (v := 0) d_D_chanceBy_28 (by decide) ?_
    obtain ⟨q3, K⟩ := K
    refine ev_last rfl (by decide) (by decide) q3 d_D_chanceBy_29 ?_
    refine ev_iinc (v := a6 + (1 : Int32)) (L' := [some (vR 9 0), some (vI a1), none, some (vI a3), some (vJ a4), none, some (vI (a6 + (1 : Int32))), none, none]) d_D_chanceBy_30 rfl (congrArg (a6 + ·) (by decide)) (by decide) rfl ?_
    refine ev_goto (tgt := 16) d_D_chanceBy_33 rfl ?_
    exact K
set_option maxRecDepth 4000 in
theorem sg_D_chanceBy_46 {d : Nat} {σ : ST} {a1 : Int32} {a3 : Int32} {a4 : Int64} {a6 : Int32} {post : Option AV → ST → Prop} (K : (((fn_C_chapters σ) ≤ a6) → (Ev none (d + 4) m_D_chanceBy 103 [some (vR 9 0), none, none, some (vI a3), some (vJ a4), none, some (vJ (0 : Int64)), none, some (vI (0 : Int32))] [] σ post)) ∧ (¬ ((fn_C_chapters σ) ≤ a6) → ((fs_C_isSkipped σ a6) ∧ ((((fn_C_isSkipped σ a6) = 0) → (Ev none (d + 3) m_D_findOutcomes 0 [some (vR 9 0), some (vI a1), some (vI a6), none, none, none, none, none, none] [] σ (fun r s5 => r = none ∧ (Ev none (d + 3) m_D_readOn 0 [some (vR 9 0), some (vI a3), none, none, none, none] [] s5 (fun r s6 => r = none ∧ (Ev none (d + 4) m_D_chanceBy 46 [some (vR 9 0), some (vI a1), none, some (vI a3), some (vJ (a4 * (fn_D_casesOf s6 a1))), none, some (vI (a6 + (1 : Int32))), none, none] [] s6 post)))))) ∧ (¬ ((fn_C_isSkipped σ a6) = 0) → (Ev none (d + 4) m_D_chanceBy 46 [some (vR 9 0), some (vI a1), none, some (vI a3), some (vJ a4), none, some (vI (a6 + (1 : Int32))), none, none] [] σ post)))))) : Ev none (d + 4) m_D_chanceBy 46 [some (vR 9 0), some (vI a1), none, some (vI a3), some (vJ a4), none, some (vI a6), none, none] [] σ post := by
  refine ev_iload d_D_chanceBy_46 rfl ?_
  refine ev_aload_n d_D_chanceBy_48 rfl rfl ?_
  refine ev_getR gf_D_39 rfl (by decide) d_D_chanceBy_49 ?_
  refine ev_callV (as := []) (st := [vI a6]) (k := 2) (i := 0) g_C_chapters ml_D_53 rfl rfl (by decide) (by decide) d_D_chanceBy_52 rfl rfl (Nat.le_of_ble_eq_true rfl) rfl (Nat.le_of_ble_eq_true rfl) ?_
  refine f_C_chapters  ?_
  show Ev none (d + 4) m_D_chanceBy 55 [some (vR 9 0), some (vI a1), none, some (vI a3), some (vJ a4), none, some (vI a6), none, none] [vI (fn_C_chapters σ), vI a6] σ post
  refine ev_icmp_ge (tgt := 97) d_D_chanceBy_55 rfl (fun h2 => ?_) (fun h2 => ?_)
  · replace K := K.1 h2
    refine ev_lconst (v := 0) d_D_chanceBy_97 (by decide) ?_
    refine ev_lstore (L' := [some (vR 9 0), some (vI a1), none, some (vI a3), some (vJ a4), none, some (vJ (0 : Int64)), none, none]) d_D_chanceBy_98 (by decide) rfl ?_
    refine ev_iconst (v := 0) d_D_chanceBy_100 (by decide) ?_
    refine ev_istore (L' := [some (vR 9 0), some (vI a1), none, some (vI a3), some (vJ a4), none, some (vJ (0 : Int64)), none, some (vI (0 : Int32))]) d_D_chanceBy_101 (by decide) rfl ?_
    exact Ev.wk (lsub_kp (lsub_sk (lsub_sk (lsub_kp (lsub_kp (lsub_sk (lsub_kp (lsub_sk (lsub_kp (lsub_nil)))))))))) K
  · replace K := K.2 h2
    refine ev_aload_n d_D_chanceBy_58 rfl rfl ?_
    refine ev_getR gf_D_39 rfl (by decide) d_D_chanceBy_59 ?_
    refine ev_iload d_D_chanceBy_62 rfl ?_
    obtain ⟨q3, K⟩ := K
    refine ev_callV (as := [vI a6]) (st := []) (k := 2) (i := 0) g_C_isSkipped ml_D_59 rfl rfl (by decide) (by decide) d_D_chanceBy_64 rfl rfl (Nat.le_of_ble_eq_true rfl) rfl (Nat.le_of_ble_eq_true rfl) ?_
    refine f_C_isSkipped q3 ?_
    show Ev none (d + 4) m_D_chanceBy 67 [some (vR 9 0), some (vI a1), none, some (vI a3), some (vJ a4), none, some (vI a6), none, none] [vI (fn_C_isSkipped σ a6)] σ post
    refine ev_if_ne (tgt := 91) d_D_chanceBy_67 rfl (fun h4 => ?_) (fun h4 => ?_)
    · replace K := K.2 h4
      refine ev_iinc (v := a6 + (1 : Int32)) (L' := [some (vR 9 0), some (vI a1), none, some (vI a3), some (vJ a4), none, some (vI (a6 + (1 : Int32))), none, none]) d_D_chanceBy_91 rfl (congrArg (a6 + ·) (by decide)) (by decide) rfl ?_
      refine ev_goto (tgt := 46) d_D_chanceBy_94 rfl ?_
      exact K
    · replace K := K.1 h4
      refine ev_aload_n d_D_chanceBy_70 rfl rfl ?_
      refine ev_iload_n d_D_chanceBy_71 rfl rfl ?_
      refine ev_iload d_D_chanceBy_72 rfl ?_
      refine ev_callV (as := [vI a1, vI a6]) (st := []) (k := 9) (i := 0) g_D_findOutcomes ml_D_63 rfl rfl (by decide) (by decide) d_D_chanceBy_74 rfl rfl (Nat.le_of_ble_eq_true rfl) rfl (Nat.le_of_ble_eq_true rfl) ?_
      refine Ev.mono K ?_
      rintro _ s5 ⟨rfl, K⟩
      show Ev none (d + 4) m_D_chanceBy 77 [some (vR 9 0), some (vI a1), none, some (vI a3), some (vJ a4), none, some (vI a6), none, none] [] s5 post
      refine ev_aload_n d_D_chanceBy_77 rfl rfl ?_
      refine ev_iload_n d_D_chanceBy_78 rfl rfl ?_
      refine ev_callV (as := [vI a3]) (st := []) (k := 9) (i := 0) g_D_readOn ml_D_67 rfl rfl (by decide) (by decide) d_D_chanceBy_79 rfl rfl (Nat.le_of_ble_eq_true rfl) rfl (Nat.le_of_ble_eq_true rfl) ?_
      refine Ev.mono K ?_
      rintro _ s6 ⟨rfl, K⟩
      show Ev none (d + 4) m_D_chanceBy 82 [some (vR 9 0), some (vI a1), none, some (vI a3), some (vJ a4), none, some (vI a6), none, none] [] s6 post
      refine ev_lload d_D_chanceBy_82 rfl ?_
      refine ev_iload_n d_D_chanceBy_84 rfl rfl ?_
      refine ev_callS (as := [vI a1]) (st := [vJ a4]) g_D_casesOf ml_D_71 d_D_chanceBy_85 rfl rfl (Nat.le_of_ble_eq_true rfl) rfl (Nat.le_of_ble_eq_true rfl) ?_
      refine f_D_casesOf  ?_
      show Ev none (d + 4) m_D_chanceBy 88 [some (vR 9 0), some (vI a1), none, some (vI a3), some (vJ a4), none, some (vI a6), none, none] [vJ (fn_D_casesOf s6 a1), vJ a4] s6 post
      refine ev_lmul d_D_chanceBy_88 ?_
      refine ev_lstore (L' := [some (vR 9 0), some (vI a1), none, some (vI a3), some (vJ (a4 * (fn_D_casesOf s6 a1))), none, some (vI a6), none, none]) d_D_chanceBy_89 (by decide) rfl ?_
      refine ev_iinc (v := a6 + (1 : Int32)) (L' := [some (vR 9 0), some (vI a1), none, some (vI a3), some (vJ (a4 * (fn_D_casesOf s6 a1))), none, some (vI (a6 + (1 : Int32))), none, none]) d_D_chanceBy_91 rfl (congrArg (a6 + ·) (by decide)) (by decide) rfl ?_
      refine ev_goto (tgt := 46) d_D_chanceBy_94 rfl ?_
      exact K
set_option maxRecDepth 4000 in
theorem sg_D_chanceBy_103 {d : Nat} {σ : ST} {a3 : Int32} {a4 : Int64} {a6 : Int64} {a8 : Int32} {post : Option AV → ST → Prop} (K : ((a3 < a8) → (Ev none (d + 3) m_D_reduce 0 [some (vR 9 0), some (vJ a6), none, some (vJ a4), none, none, none] [] σ (fun r s3 => r = none ∧ (post none s3)))) ∧ (¬ (a3 < a8) → ((vp_in a8 3169) ∧ (Ev none (d + 4) m_D_chanceBy 103 [some (vR 9 0), none, none, some (vI a3), some (vJ a4), none, some (vJ (a6 + (σ.2 35 0 (a8.toNatClampNeg)))), none, some (vI (a8 + (1 : Int32)))] [] σ post)))) : Ev none (d + 4) m_D_chanceBy 103 [some (vR 9 0), none, none, some (vI a3), some (vJ a4), none, some (vJ a6), none, some (vI a8)] [] σ post := by
  refine ev_iload d_D_chanceBy_103 rfl ?_
  refine ev_iload_n d_D_chanceBy_105 rfl rfl ?_
  refine ev_icmp_gt (tgt := 127) d_D_chanceBy_106 rfl (fun h2 => ?_) (fun h2 => ?_)
  · replace K := K.1 h2
    refine ev_aload_n d_D_chanceBy_127 rfl rfl ?_
    refine ev_lload d_D_chanceBy_128 rfl ?_
    refine ev_lload d_D_chanceBy_130 rfl ?_
    refine ev_callV (as := [vJ a6, vJ a4]) (st := []) (k := 9) (i := 0) g_D_reduce ml_D_75 rfl rfl (by decide) (by decide) d_D_chanceBy_132 rfl rfl (Nat.le_of_ble_eq_true rfl) rfl (Nat.le_of_ble_eq_true rfl) ?_
    refine Ev.mono K ?_
    rintro _ s3 ⟨rfl, K⟩
    show Ev none (d + 4) m_D_chanceBy 135 [some (vR 9 0), none, none, some (vI a3), some (vJ a4), none, some (vJ a6), none, some (vI a8)] [] s3 post
    exact ev_ret (r := none) d_D_chanceBy_135 rfl rfl K
  · replace K := K.2 h2
    refine ev_lload d_D_chanceBy_109 rfl ?_
    refine ev_aload_n d_D_chanceBy_111 rfl rfl ?_
    refine ev_getR gf_D_11 rfl (by decide) d_D_chanceBy_112 ?_
    refine ev_iload d_D_chanceBy_115 rfl ?_
    obtain ⟨q4, K⟩ := K
    refine ev_lald rfl (by decide) (by decide) q4 d_D_chanceBy_117 ?_
    refine ev_ladd d_D_chanceBy_118 ?_
    refine ev_lstore (L' := [some (vR 9 0), none, none, some (vI a3), some (vJ a4), none, some (vJ (a6 + (σ.2 35 0 (a8.toNatClampNeg)))), none, some (vI a8)]) d_D_chanceBy_119 (by decide) rfl ?_
    refine ev_iinc (v := a8 + (1 : Int32)) (L' := [some (vR 9 0), none, none, some (vI a3), some (vJ a4), none, some (vJ (a6 + (σ.2 35 0 (a8.toNatClampNeg)))), none, some (vI (a8 + (1 : Int32)))]) d_D_chanceBy_121 rfl (congrArg (a8 + ·) (by decide)) (by decide) rfl ?_
    refine ev_goto (tgt := 103) d_D_chanceBy_124 rfl ?_
    exact K
set_option maxRecDepth 4000 in
theorem sg_D_meanMinutes_0 {d : Nat} {σ : ST} {a1 : Int32} {post : Option AV → ST → Prop} (K : Ev none (d + 4) m_D_meanMinutes 5 [some (vR 9 0), some (vI a1), some (vJ (0 : Int64)), none, some (vI (0 : Int32)), none] [] σ post) : Ev none (d + 4) m_D_meanMinutes 0 [some (vR 9 0), some (vI a1), none, none, none, none] [] σ post := by
  refine ev_lconst (v := 0) d_D_meanMinutes_0 (by decide) ?_
  refine ev_lstore_n (L' := [some (vR 9 0), some (vI a1), some (vJ (0 : Int64)), none, none, none]) d_D_meanMinutes_1 rfl (by decide) rfl ?_
  refine ev_iconst (v := 0) d_D_meanMinutes_2 (by decide) ?_
  refine ev_istore (L' := [some (vR 9 0), some (vI a1), some (vJ (0 : Int64)), none, some (vI (0 : Int32)), none]) d_D_meanMinutes_3 (by decide) rfl ?_
  exact K
set_option maxRecDepth 4000 in
theorem sg_D_meanMinutes_5 {d : Nat} {σ : ST} {a1 : Int32} {a2 : Int64} {a4 : Int32} {post : Option AV → ST → Prop} (K : (((fn_C_chapters σ) ≤ a4) → (Ev none (d + 3) m_D_reduce 0 [some (vR 9 0), some (vJ a2), none, some (vJ (fn_D_casesOf σ a1)), none, none, none] [] σ (fun r s3 => r = none ∧ (post none s3)))) ∧ (¬ ((fn_C_chapters σ) ≤ a4) → ((fs_C_isSkipped σ a4) ∧ ((((fn_C_isSkipped σ a4) = 0) → (Ev none (d + 3) m_D_findOutcomes 0 [some (vR 9 0), some (vI a1), some (vI a4), none, none, none, none, none, none] [] σ (fun r s6 => r = none ∧ (Ev none (d + 4) m_D_meanMinutes 39 [some (vR 9 0), some (vI a1), some (vJ a2), none, some (vI a4), some (vI (0 : Int32))] [] s6 post)))) ∧ (¬ ((fn_C_isSkipped σ a4) = 0) → (Ev none (d + 4) m_D_meanMinutes 5 [some (vR 9 0), some (vI a1), some (vJ a2), none, some (vI (a4 + (1 : Int32))), none] [] σ post)))))) : Ev none (d + 4) m_D_meanMinutes 5 [some (vR 9 0), some (vI a1), some (vJ a2), none, some (vI a4), none] [] σ post := by
  refine ev_iload d_D_meanMinutes_5 rfl ?_
  refine ev_aload_n d_D_meanMinutes_7 rfl rfl ?_
  refine ev_getR gf_D_39 rfl (by decide) d_D_meanMinutes_8 ?_
  refine ev_callV (as := []) (st := [vI a4]) (k := 2) (i := 0) g_C_chapters ml_D_53 rfl rfl (by decide) (by decide) d_D_meanMinutes_11 rfl rfl (Nat.le_of_ble_eq_true rfl) rfl (Nat.le_of_ble_eq_true rfl) ?_
  refine f_C_chapters  ?_
  show Ev none (d + 4) m_D_meanMinutes 14 [some (vR 9 0), some (vI a1), some (vJ a2), none, some (vI a4), none] [vI (fn_C_chapters σ), vI a4] σ post
  refine ev_icmp_ge (tgt := 80) d_D_meanMinutes_14 rfl (fun h2 => ?_) (fun h2 => ?_)
  · replace K := K.1 h2
    refine ev_aload_n d_D_meanMinutes_80 rfl rfl ?_
    refine ev_lload_n d_D_meanMinutes_81 rfl rfl ?_
    refine ev_iload_n d_D_meanMinutes_82 rfl rfl ?_
    refine ev_callS (as := [vI a1]) (st := [vJ a2, vR 9 0]) g_D_casesOf ml_D_71 d_D_meanMinutes_83 rfl rfl (Nat.le_of_ble_eq_true rfl) rfl (Nat.le_of_ble_eq_true rfl) ?_
    refine f_D_casesOf  ?_
    show Ev none (d + 4) m_D_meanMinutes 86 [some (vR 9 0), some (vI a1), some (vJ a2), none, some (vI a4), none] [vJ (fn_D_casesOf σ a1), vJ a2, vR 9 0] σ post
    refine ev_callV (as := [vJ a2, vJ (fn_D_casesOf σ a1)]) (st := []) (k := 9) (i := 0) g_D_reduce ml_D_75 rfl rfl (by decide) (by decide) d_D_meanMinutes_86 rfl rfl (Nat.le_of_ble_eq_true rfl) rfl (Nat.le_of_ble_eq_true rfl) ?_
    refine Ev.mono K ?_
    rintro _ s3 ⟨rfl, K⟩
    show Ev none (d + 4) m_D_meanMinutes 89 [some (vR 9 0), some (vI a1), some (vJ a2), none, some (vI a4), none] [] s3 post
    exact ev_ret (r := none) d_D_meanMinutes_89 rfl rfl K
  · replace K := K.2 h2
    refine ev_aload_n d_D_meanMinutes_17 rfl rfl ?_
    refine ev_getR gf_D_39 rfl (by decide) d_D_meanMinutes_18 ?_
    refine ev_iload d_D_meanMinutes_21 rfl ?_
    obtain ⟨q4, K⟩ := K
    refine ev_callV (as := [vI a4]) (st := []) (k := 2) (i := 0) g_C_isSkipped ml_D_59 rfl rfl (by decide) (by decide) d_D_meanMinutes_23 rfl rfl (Nat.le_of_ble_eq_true rfl) rfl (Nat.le_of_ble_eq_true rfl) ?_
    refine f_C_isSkipped q4 ?_
    show Ev none (d + 4) m_D_meanMinutes 26 [some (vR 9 0), some (vI a1), some (vJ a2), none, some (vI a4), none] [vI (fn_C_isSkipped σ a4)] σ post
    refine ev_if_ne (tgt := 74) d_D_meanMinutes_26 rfl (fun h5 => ?_) (fun h5 => ?_)
    · replace K := K.2 h5
      refine ev_iinc (v := a4 + (1 : Int32)) (L' := [some (vR 9 0), some (vI a1), some (vJ a2), none, some (vI (a4 + (1 : Int32))), none]) d_D_meanMinutes_74 rfl (congrArg (a4 + ·) (by decide)) (by decide) rfl ?_
      refine ev_goto (tgt := 5) d_D_meanMinutes_77 rfl ?_
      exact K
    · replace K := K.1 h5
      refine ev_aload_n d_D_meanMinutes_29 rfl rfl ?_
      refine ev_iload_n d_D_meanMinutes_30 rfl rfl ?_
      refine ev_iload d_D_meanMinutes_31 rfl ?_
      refine ev_callV (as := [vI a1, vI a4]) (st := []) (k := 9) (i := 0) g_D_findOutcomes ml_D_63 rfl rfl (by decide) (by decide) d_D_meanMinutes_33 rfl rfl (Nat.le_of_ble_eq_true rfl) rfl (Nat.le_of_ble_eq_true rfl) ?_
      refine Ev.mono K ?_
      rintro _ s6 ⟨rfl, K⟩
      show Ev none (d + 4) m_D_meanMinutes 36 [some (vR 9 0), some (vI a1), some (vJ a2), none, some (vI a4), none] [] s6 post
      refine ev_iconst (v := 0) d_D_meanMinutes_36 (by decide) ?_
      refine ev_istore (L' := [some (vR 9 0), some (vI a1), some (vJ a2), none, some (vI a4), some (vI (0 : Int32))]) d_D_meanMinutes_37 (by decide) rfl ?_
      exact K
set_option maxRecDepth 4000 in
theorem sg_D_meanMinutes_39 {d : Nat} {σ : ST} {a1 : Int32} {a2 : Int64} {a4 : Int32} {a5 : Int32} {post : Option AV → ST → Prop} (K : (((σ.1 9 0 6) ≤ a5) → (Ev none (d + 4) m_D_meanMinutes 5 [some (vR 9 0), some (vI a1), some (vJ a2), none, some (vI (a4 + (1 : Int32))), none] [] σ post)) ∧ (¬ ((σ.1 9 0 6) ≤ a5) → ((vp_in a5 8) ∧ ((vp_in a5 8) ∧ (Ev none (d + 4) m_D_meanMinutes 39 [some (vR 9 0), some (vI a1), some (vJ (a2 + ((Int32.toInt64 (σ.1 38 0 (a5.toNatClampNeg))) * (Int32.toInt64 (σ.1 39 0 (a5.toNatClampNeg)))))), none, some (vI a4), some (vI (a5 + (1 : Int32)))] [] σ post))))) : Ev none (d + 4) m_D_meanMinutes 39 [some (vR 9 0), some (vI a1), some (vJ a2), none, some (vI a4), some (vI a5)] [] σ post := by
  refine ev_iload d_D_meanMinutes_39 rfl ?_
  refine ev_aload_n d_D_meanMinutes_41 rfl rfl ?_
  refine ev_getI gf_D_28 rfl (by decide) d_D_meanMinutes_42 ?_
  refine ev_icmp_ge (tgt := 74) d_D_meanMinutes_45 rfl (fun h3 => ?_) (fun h3 => ?_)
  · replace K := K.1 h3
    refine ev_iinc (v := a4 + (1 : Int32)) (L' := [some (vR 9 0), some (vI a1), some (vJ a2), none, some (vI (a4 + (1 : Int32))), some (vI a5)]) d_D_meanMinutes_74 rfl (congrArg (a4 + ·) (by decide)) (by decide) rfl ?_
    refine ev_goto (tgt := 5) d_D_meanMinutes_77 rfl ?_
    exact Ev.wk (lsub_kp (lsub_kp (lsub_kp (lsub_sk (lsub_kp (lsub_sk (lsub_nil))))))) K
  · replace K := K.2 h3
    refine ev_lload_n d_D_meanMinutes_48 rfl rfl ?_
    refine ev_aload_n d_D_meanMinutes_49 rfl rfl ?_
    refine ev_getR gf_D_22 rfl (by decide) d_D_meanMinutes_50 ?_
    refine ev_iload d_D_meanMinutes_53 rfl ?_
    obtain ⟨q4, K⟩ := K
    refine ev_iald rfl (by decide) (by decide) q4 d_D_meanMinutes_55 ?_
    refine ev_i2l d_D_meanMinutes_56 ?_
    refine ev_aload_n d_D_meanMinutes_57 rfl rfl ?_
    refine ev_getR gf_D_25 rfl (by decide) d_D_meanMinutes_58 ?_
    refine ev_iload d_D_meanMinutes_61 rfl ?_
    obtain ⟨q5, K⟩ := K
    refine ev_iald rfl (by decide) (by decide) q5 d_D_meanMinutes_63 ?_
    refine ev_i2l d_D_meanMinutes_64 ?_
    refine ev_lmul d_D_meanMinutes_65 ?_
    refine ev_ladd d_D_meanMinutes_66 ?_
    refine ev_lstore_n (L' := [some (vR 9 0), some (vI a1), some (vJ (a2 + ((Int32.toInt64 (σ.1 38 0 (a5.toNatClampNeg))) * (Int32.toInt64 (σ.1 39 0 (a5.toNatClampNeg)))))), none, some (vI a4), some (vI a5)]) d_D_meanMinutes_67 rfl (by decide) rfl ?_
    refine ev_iinc (v := a5 + (1 : Int32)) (L' := [some (vR 9 0), some (vI a1), some (vJ (a2 + ((Int32.toInt64 (σ.1 38 0 (a5.toNatClampNeg))) * (Int32.toInt64 (σ.1 39 0 (a5.toNatClampNeg)))))), none, some (vI a4), some (vI (a5 + (1 : Int32)))]) d_D_meanMinutes_68 rfl (congrArg (a5 + ·) (by decide)) (by decide) rfl ?_
    refine ev_goto (tgt := 39) d_D_meanMinutes_71 rfl ?_
    exact K
set_option maxRecDepth 4000 in
theorem sg_U_fittingPaces_0 {d : Nat} {σ : ST} {a1 : Int32} {a2 : Int32} {post : Option AV → ST → Prop} (K : Ev none (d + 5) m_U_fittingPaces 5 [some (vR 8 0), some (vI a1), some (vI a2), some (vI (0 : Int32)), some (vI (1 : Int32))] [] σ post) : Ev none (d + 5) m_U_fittingPaces 0 [some (vR 8 0), some (vI a1), some (vI a2), none, none] [] σ post := by
  refine ev_iconst (v := 0) d_U_fittingPaces_0 (by decide) ?_
  refine ev_istore_n (L' := [some (vR 8 0), some (vI a1), some (vI a2), some (vI (0 : Int32)), none]) d_U_fittingPaces_1 rfl (by decide) rfl ?_
  refine ev_iconst (v := 1) d_U_fittingPaces_2 (by decide) ?_
  refine ev_istore (L' := [some (vR 8 0), some (vI a1), some (vI a2), some (vI (0 : Int32)), some (vI (1 : Int32))]) d_U_fittingPaces_3 (by decide) rfl ?_
  exact K
set_option maxRecDepth 4000 in
theorem sg_U_fittingPaces_5 {d : Nat} {σ : ST} {a1 : Int32} {a2 : Int32} {a3 : Int32} {a4 : Int32} {post : Option AV → ST → Prop} (K : (((9 : Int32) < a4) → (post (some (vI a3)) σ)) ∧ (¬ ((9 : Int32) < a4) → (Ev none (d + 4) m_U_fitsAll 0 [some (vR 8 0), some (vI a1), some (vI a2), some (vI a4), none, none, none] [] σ (fun r s2 => ∃ z3 : Int32, r = some (vI z3) ∧ (∀ z4 : Int32, z4 = (if z3 = 0 then a3 else (a3 ||| (isl (1 : Int32) (a4 - (1 : Int32))))) → (Ev none (d + 5) m_U_fittingPaces 5 [some (vR 8 0), some (vI a1), some (vI a2), some (vI z4), some (vI (a4 + (1 : Int32)))] [] s2 post)))))) : Ev none (d + 5) m_U_fittingPaces 5 [some (vR 8 0), some (vI a1), some (vI a2), some (vI a3), some (vI a4)] [] σ post := by
  refine ev_iload d_U_fittingPaces_5 rfl ?_
  refine ev_bipush (v := 9) d_U_fittingPaces_7 (by decide) ?_
  refine ev_icmp_gt (tgt := 38) d_U_fittingPaces_9 rfl (fun h1 => ?_) (fun h1 => ?_)
  · replace K := K.1 h1
    refine ev_iload_n d_U_fittingPaces_38 rfl rfl ?_
    exact ev_ret (r := some (vI a3)) d_U_fittingPaces_39 rfl rfl K
  · replace K := K.2 h1
    refine ev_aload_n d_U_fittingPaces_12 rfl rfl ?_
    refine ev_iload_n d_U_fittingPaces_13 rfl rfl ?_
    refine ev_iload_n d_U_fittingPaces_14 rfl rfl ?_
    refine ev_iload d_U_fittingPaces_15 rfl ?_
    refine ev_callV (as := [vI a1, vI a2, vI a4]) (st := []) (k := 8) (i := 0) g_U_fitsAll ml_U_39 rfl rfl (by decide) (by decide) d_U_fittingPaces_17 rfl rfl (Nat.le_of_ble_eq_true rfl) rfl (Nat.le_of_ble_eq_true rfl) ?_
    refine Ev.mono K ?_
    rintro _ s2 ⟨z3, rfl, K⟩
    show Ev none (d + 5) m_U_fittingPaces 20 [some (vR 8 0), some (vI a1), some (vI a2), some (vI a3), some (vI a4)] [vI z3] s2 post
    obtain ⟨z4, ez4⟩ : ∃ z : Int32, z = (if z3 = 0 then a3 else (a3 ||| (isl (1 : Int32) (a4 - (1 : Int32))))) := ⟨_, rfl⟩
    replace K := K z4 ez4
    have JJ : Ev none (d + 5) m_U_fittingPaces 32 [some (vR 8 0), some (vI a1), some (vI a2), some (vI z4), some (vI a4)] [] s2 post := by
      refine ev_iinc (v := a4 + (1 : Int32)) (L' := [some (vR 8 0), some (vI a1), some (vI a2), some (vI z4), some (vI (a4 + (1 : Int32)))]) d_U_fittingPaces_32 rfl (congrArg (a4 + ·) (by decide)) (by decide) rfl ?_
      refine ev_goto (tgt := 5) d_U_fittingPaces_35 rfl ?_
      exact K
    clear K
    refine ev_if_eq (tgt := 32) d_U_fittingPaces_20 rfl (fun h5 => ?_) (fun h5 => ?_)
    · rw [if_pos h5] at ez4
      subst ez4
      exact JJ
    · rw [if_neg h5] at ez4
      refine ev_iload_n d_U_fittingPaces_23 rfl rfl ?_
      refine ev_iconst (v := 1) d_U_fittingPaces_24 (by decide) ?_
      refine ev_iload d_U_fittingPaces_25 rfl ?_
      refine ev_iconst (v := 1) d_U_fittingPaces_27 (by decide) ?_
      refine ev_isub d_U_fittingPaces_28 ?_
      refine ev_ishl d_U_fittingPaces_29 ?_
      refine ev_ior d_U_fittingPaces_30 ?_
      refine ev_istore_n (L' := [some (vR 8 0), some (vI a1), some (vI a2), some (vI (a3 ||| (isl (1 : Int32) (a4 - (1 : Int32))))), some (vI a4)]) d_U_fittingPaces_31 rfl (by decide) rfl ?_
      subst ez4
      exact JJ
