-- segments (by program: wip/gen/gen_seg.py)
set_option maxRecDepth 4000 in
theorem sg_M_forget_0 {d : Nat} {σ : ST}  {post : Option AV → ST → Prop} (K : post (some (vI (σ.1 11 0 29))) (setI σ 11 0 29 (0 : Int32))) : Ev none d m_M_forget 0 [some (vR 11 0), none] [] σ post := by
  refine ev_aload_n d_M_forget_0 rfl rfl ?_
  refine ev_getI gf_M_261 rfl (by decide) d_M_forget_1 ?_
  refine ev_istore_n (L' := [some (vR 11 0), some (vI (σ.1 11 0 29))]) d_M_forget_4 rfl (by decide) rfl ?_
  refine ev_aload_n d_M_forget_5 rfl rfl ?_
  refine ev_iconst (v := 0) d_M_forget_6 (by decide) ?_
  refine ev_putI gp_M_261 rfl (by decide) d_M_forget_7 ?_
  refine ev_iload_n d_M_forget_10 rfl rfl ?_
  exact ev_ret (r := some (vI (σ.1 11 0 29))) d_M_forget_11 rfl rfl K
set_option maxRecDepth 4000 in
theorem sg_M_met_0 {d : Nat} {σ : ST} {a1 : Int32} {post : Option AV → ST → Prop} (K : post (some (vI ((-10 : Int32) - a1))) (setI σ 11 0 4 a1)) : Ev none d m_M_met 0 [some (vR 11 0), some (vI a1)] [] σ post := by
  refine ev_aload_n d_M_met_0 rfl rfl ?_
  refine ev_iload_n d_M_met_1 rfl rfl ?_
  refine ev_putI gp_M_80 rfl (by decide) d_M_met_2 ?_
  refine ev_bipush (v := -10) d_M_met_5 (by decide) ?_
  refine ev_iload_n d_M_met_7 rfl rfl ?_
  refine ev_isub d_M_met_8 ?_
  exact ev_ret (r := some (vI ((-10 : Int32) - a1))) d_M_met_9 rfl rfl K
set_option maxRecDepth 4000 in
theorem sg_M_none_0 {d : Nat} {σ : ST}  {post : Option AV → ST → Prop} (K : post (some (vI ((setI σ 11 0 8 (0 : Int32)).1 11 0 7))) (setI σ 11 0 8 (0 : Int32))) : Ev none d m_M_none 0 [some (vR 11 0)] [] σ post := by
  refine ev_aload_n d_M_none_0 rfl rfl ?_
  refine ev_iconst (v := 0) d_M_none_1 (by decide) ?_
  refine ev_putI gp_M_113 rfl (by decide) d_M_none_2 ?_
  refine ev_aload_n d_M_none_5 rfl rfl ?_
  refine ev_getI gf_M_110 rfl (by decide) d_M_none_6 ?_
  exact ev_ret (r := some (vI ((setI σ 11 0 8 (0 : Int32)).1 11 0 7))) d_M_none_9 rfl rfl K
set_option maxRecDepth 4000 in
theorem sg_M_ones_0 {d : Nat} {σ : ST} {a0 : Int32} {post : Option AV → ST → Prop} (K : Ev none d m_M_ones 4 [none, some (vI (0 : Int32)), some (vI a0)] [] σ post) : Ev none d m_M_ones 0 [some (vI a0), none, none] [] σ post := by
  refine ev_iconst (v := 0) d_M_ones_0 (by decide) ?_
  refine ev_istore_n (L' := [some (vI a0), some (vI (0 : Int32)), none]) d_M_ones_1 rfl (by decide) rfl ?_
  refine ev_iload_n d_M_ones_2 rfl rfl ?_
  refine ev_istore_n (L' := [some (vI a0), some (vI (0 : Int32)), some (vI a0)]) d_M_ones_3 rfl (by decide) rfl ?_
  exact Ev.wk (lsub_sk (lsub_kp (lsub_kp (lsub_nil)))) K
set_option maxRecDepth 4000 in
theorem sg_M_ones_4 {d : Nat} {σ : ST} {a1 : Int32} {a2 : Int32} {post : Option AV → ST → Prop} (K : ((a2 = 0) → (post (some (vI a1)) σ)) ∧ (¬ (a2 = 0) → (Ev none d m_M_ones 4 [none, some (vI (a1 + (1 : Int32))), some (vI (a2 &&& (a2 - (1 : Int32))))] [] σ post))) : Ev none d m_M_ones 4 [none, some (vI a1), some (vI a2)] [] σ post := by
  refine ev_iload_n d_M_ones_4 rfl rfl ?_
  refine ev_if_eq (tgt := 20) d_M_ones_5 rfl (fun h1 => ?_) (fun h1 => ?_)
  · replace K := K.1 h1
    refine ev_iload_n d_M_ones_20 rfl rfl ?_
    exact ev_ret (r := some (vI a1)) d_M_ones_21 rfl rfl K
  · replace K := K.2 h1
    refine ev_iinc (v := a1 + (1 : Int32)) (L' := [none, some (vI (a1 + (1 : Int32))), some (vI a2)]) d_M_ones_8 rfl (congrArg (a1 + ·) (by decide)) (by decide) rfl ?_
    refine ev_iload_n d_M_ones_11 rfl rfl ?_
    refine ev_iload_n d_M_ones_12 rfl rfl ?_
    refine ev_iconst (v := 1) d_M_ones_13 (by decide) ?_
    refine ev_isub d_M_ones_14 ?_
    refine ev_iand d_M_ones_15 ?_
    refine ev_istore_n (L' := [none, some (vI (a1 + (1 : Int32))), some (vI (a2 &&& (a2 - (1 : Int32))))]) d_M_ones_16 rfl (by decide) rfl ?_
    refine ev_goto (tgt := 4) d_M_ones_17 rfl ?_
    exact K
set_option maxRecDepth 4000 in
theorem sg_M_part_0 {d : Nat} {σ : ST} {a0 : Int64} {a2 : Int64} {a4 : Int32} {post : Option AV → ST → Prop} (K : Ev none d m_M_part 6 [some (vJ a0), none, some (vJ a2), none, some (vI a4), some (vJ a0), none, some (vJ a2), none, none, none] [] σ post) : Ev none d m_M_part 0 [some (vJ a0), none, some (vJ a2), none, some (vI a4), none, none, none, none, none, none] [] σ post := by
  refine ev_lload_n d_M_part_0 rfl rfl ?_
  refine ev_lstore (L' := [some (vJ a0), none, some (vJ a2), none, some (vI a4), some (vJ a0), none, none, none, none, none]) d_M_part_1 (by decide) rfl ?_
  refine ev_lload_n d_M_part_3 rfl rfl ?_
  refine ev_lstore (L' := [some (vJ a0), none, some (vJ a2), none, some (vI a4), some (vJ a0), none, some (vJ a2), none, none, none]) d_M_part_4 (by decide) rfl ?_
  exact K
set_option maxRecDepth 4000 in
theorem sg_M_part_6 {d : Nat} {σ : ST} {a0 : Int64} {a2 : Int64} {a4 : Int32} {a5 : Int64} {a7 : Int64} {post : Option AV → ST → Prop} (K : ((a7 = (0 : Int64)) → (((a4 = 0) → ((¬ a5 = 0) ∧ (post (some (vJ (a0 / a5))) σ))) ∧ (¬ (a4 = 0) → ((¬ a5 = 0) ∧ (post (some (vJ (a2 / a5))) σ))))) ∧ (¬ (a7 = (0 : Int64)) → ((¬ a7 = 0) ∧ (Ev none d m_M_part 6 [some (vJ a0), none, some (vJ a2), none, some (vI a4), some (vJ a7), none, some (vJ (lrm a5 a7)), none, none, none] [] σ post)))) : Ev none d m_M_part 6 [some (vJ a0), none, some (vJ a2), none, some (vI a4), some (vJ a5), none, some (vJ a7), none, none, none] [] σ post := by
  refine ev_lload d_M_part_6 rfl ?_
  refine ev_lconst (v := 0) d_M_part_8 (by decide) ?_
  refine ev_lcmp d_M_part_9 ?_
  refine ev_ifc_eq (tgt := 31) d_M_part_10 rfl (fun h2 => ?_) (fun h2 => ?_)
  · replace K := K.1 h2
    refine ev_iload d_M_part_31 rfl ?_
    refine ev_if_ne (tgt := 40) d_M_part_33 rfl (fun h3 => ?_) (fun h3 => ?_)
    · replace K := K.2 h3
      refine ev_lload_n d_M_part_40 rfl rfl ?_
      refine ev_lload d_M_part_41 rfl ?_
      obtain ⟨q4, K⟩ := K
      refine ev_ldiv d_M_part_43 q4 ?_
      exact ev_ret (r := some (vJ (a2 / a5))) d_M_part_44 rfl rfl K
    · replace K := K.1 h3
      refine ev_lload_n d_M_part_36 rfl rfl ?_
      refine ev_goto (tgt := 41) d_M_part_37 rfl ?_
      refine ev_lload d_M_part_41 rfl ?_
      obtain ⟨q5, K⟩ := K
      refine ev_ldiv d_M_part_43 q5 ?_
      exact ev_ret (r := some (vJ (a0 / a5))) d_M_part_44 rfl rfl K
  · replace K := K.2 h2
    refine ev_lload d_M_part_13 rfl ?_
    refine ev_lload d_M_part_15 rfl ?_
    obtain ⟨q6, K⟩ := K
    refine ev_lrem d_M_part_17 q6 ?_
    refine ev_lstore (L' := [some (vJ a0), none, some (vJ a2), none, some (vI a4), some (vJ a5), none, some (vJ a7), none, some (vJ (lrm a5 a7)), none]) d_M_part_18 (by decide) rfl ?_
    refine ev_lload d_M_part_20 rfl ?_
    refine ev_lstore (L' := [some (vJ a0), none, some (vJ a2), none, some (vI a4), some (vJ a7), none, some (vJ a7), none, some (vJ (lrm a5 a7)), none]) d_M_part_22 (by decide) rfl ?_
    refine ev_lload d_M_part_24 rfl ?_
    refine ev_lstore (L' := [some (vJ a0), none, some (vJ a2), none, some (vI a4), some (vJ a7), none, some (vJ (lrm a5 a7)), none, some (vJ (lrm a5 a7)), none]) d_M_part_26 (by decide) rfl ?_
    refine ev_goto (tgt := 6) d_M_part_28 rfl ?_
    exact Ev.wk (lsub_kp (lsub_sk (lsub_kp (lsub_sk (lsub_kp (lsub_kp (lsub_sk (lsub_kp (lsub_sk (lsub_sk (lsub_sk (lsub_nil)))))))))))) K
set_option maxRecDepth 4000 in
theorem sg_M_wipe_0 {d : Nat} {σ : ST}  {post : Option AV → ST → Prop} (K : post (some (vI (σ.1 11 0 6))) (setI σ 11 0 6 (0 : Int32))) : Ev none d m_M_wipe 0 [some (vR 11 0), none] [] σ post := by
  refine ev_aload_n d_M_wipe_0 rfl rfl ?_
  refine ev_getI gf_M_107 rfl (by decide) d_M_wipe_1 ?_
  refine ev_istore_n (L' := [some (vR 11 0), some (vI (σ.1 11 0 6))]) d_M_wipe_4 rfl (by decide) rfl ?_
  refine ev_aload_n d_M_wipe_5 rfl rfl ?_
  refine ev_iconst (v := 0) d_M_wipe_6 (by decide) ?_
  refine ev_putI gp_M_107 rfl (by decide) d_M_wipe_7 ?_
  refine ev_iload_n d_M_wipe_10 rfl rfl ?_
  exact ev_ret (r := some (vI (σ.1 11 0 6))) d_M_wipe_11 rfl rfl K
set_option maxRecDepth 4000 in
theorem sg_M_first_0 {d : Nat} {σ : ST} {a0 : Int32} {post : Option AV → ST → Prop} (K : Ev none (d + 1) m_M_first 2 [some (vI a0), some (vI (0 : Int32))] [] σ post) : Ev none (d + 1) m_M_first 0 [some (vI a0), none] [] σ post := by
  refine ev_iconst (v := 0) d_M_first_0 (by decide) ?_
  refine ev_istore_n (L' := [some (vI a0), some (vI (0 : Int32))]) d_M_first_1 rfl (by decide) rfl ?_
  exact K
set_option maxRecDepth 4000 in
theorem sg_M_first_2 {d : Nat} {σ : ST} {a0 : Int32} {a1 : Int32} {post : Option AV → ST → Prop} (K : ((fp_M_isIn σ a0 a1) → (post (some (vI a1)) σ)) ∧ (¬ (fp_M_isIn σ a0 a1) → (Ev none (d + 1) m_M_first 2 [some (vI a0), some (vI (a1 + (1 : Int32)))] [] σ post))) : Ev none (d + 1) m_M_first 2 [some (vI a0), some (vI a1)] [] σ post := by
  refine ev_iload_n d_M_first_2 rfl rfl ?_
  refine ev_iload_n d_M_first_3 rfl rfl ?_
  refine ev_callS (as := [vI a0, vI a1]) (st := []) g_M_isIn ml_M_169 d_M_first_4 rfl rfl (Nat.le_of_ble_eq_true rfl) rfl (Nat.le_of_ble_eq_true rfl) ?_
  refine f_M_isIn  ?_
  show Ev none (d + 1) m_M_first 7 [some (vI a0), some (vI a1)] [vI (bi (fp_M_isIn σ a0 a1))] σ post
  refine ev_ifb_ne (tgt := 16) d_M_first_7 rfl (fun h1 => ?_) (fun h1 => ?_)
  · replace K := K.1 h1
    refine ev_iload_n d_M_first_16 rfl rfl ?_
    exact ev_ret (r := some (vI a1)) d_M_first_17 rfl rfl K
  · replace K := K.2 h1
    refine ev_iinc (v := a1 + (1 : Int32)) (L' := [some (vI a0), some (vI (a1 + (1 : Int32)))]) d_M_first_10 rfl (congrArg (a1 + ·) (by decide)) (by decide) rfl ?_
    refine ev_goto (tgt := 2) d_M_first_13 rfl ?_
    exact K
set_option maxRecDepth 4000 in
theorem sg_M_lacks_0 {d : Nat} {σ : ST} {a1 : Int32} {a2 : Int32} {a3 : Int32} {post : Option AV → ST → Prop} (K : (vp_in a1 4) ∧ (((0 ≤ (σ.1 42 0 (a1.toNatClampNeg))) → ((vp_in a1 4) ∧ ((((σ.1 42 0 (a1.toNatClampNeg)) = a2) → ((vp_in a1 4) ∧ (((fp_M_in σ (Int32.toInt64 a3) (0 : Int64) (Int32.toInt64 ((σ.1 43 0 (a1.toNatClampNeg)) - (1 : Int32)))) → (post (some (vI (0 : Int32))) σ)) ∧ (¬ (fp_M_in σ (Int32.toInt64 a3) (0 : Int64) (Int32.toInt64 ((σ.1 43 0 (a1.toNatClampNeg)) - (1 : Int32)))) → (Ev none d m_M_met 0 [some (vR 11 0), some (vI (2 : Int32))] [] σ (fun r s7 => ∃ z8 : Int32, r = some (vI z8) ∧ (post (some (vI z8)) s7))))))) ∧ (¬ ((σ.1 42 0 (a1.toNatClampNeg)) = a2) → (Ev none d m_M_met 0 [some (vR 11 0), some (vI (3 : Int32))] [] σ (fun r s9 => ∃ z10 : Int32, r = some (vI z10) ∧ (post (some (vI z10)) s9))))))) ∧ (¬ (0 ≤ (σ.1 42 0 (a1.toNatClampNeg))) → (Ev none d m_M_met 0 [some (vR 11 0), some (vI (1 : Int32))] [] σ (fun r s11 => ∃ z12 : Int32, r = some (vI z12) ∧ (post (some (vI z12)) s11)))))) : Ev none (d + 1) m_M_lacks 0 [some (vR 11 0), some (vI a1), some (vI a2), some (vI a3)] [] σ post := by
  refine ev_aload_n d_M_lacks_0 rfl rfl ?_
  refine ev_getR gf_M_7 rfl (by decide) d_M_lacks_1 ?_
  refine ev_iload_n d_M_lacks_4 rfl rfl ?_
  obtain ⟨q1, K⟩ := K
  refine ev_iald rfl (by decide) (by decide) q1 d_M_lacks_5 ?_
  refine ev_if_ge (tgt := 15) d_M_lacks_6 rfl (fun h2 => ?_) (fun h2 => ?_)
  · replace K := K.1 h2
    refine ev_aload_n d_M_lacks_15 rfl rfl ?_
    refine ev_getR gf_M_7 rfl (by decide) d_M_lacks_16 ?_
    refine ev_iload_n d_M_lacks_19 rfl rfl ?_
    obtain ⟨q3, K⟩ := K
    refine ev_iald rfl (by decide) (by decide) q3 d_M_lacks_20 ?_
    refine ev_iload_n d_M_lacks_21 rfl rfl ?_
    refine ev_icmp_eq (tgt := 31) d_M_lacks_22 rfl (fun h4 => ?_) (fun h4 => ?_)
    · replace K := K.1 h4
      refine ev_iload_n d_M_lacks_31 rfl rfl ?_
      refine ev_i2l d_M_lacks_32 ?_
      refine ev_lconst (v := 0) d_M_lacks_33 (by decide) ?_
      refine ev_aload_n d_M_lacks_34 rfl rfl ?_
      refine ev_getR gf_M_13 rfl (by decide) d_M_lacks_35 ?_
      refine ev_iload_n d_M_lacks_38 rfl rfl ?_
      obtain ⟨q5, K⟩ := K
      refine ev_iald rfl (by decide) (by decide) q5 d_M_lacks_39 ?_
      refine ev_iconst (v := 1) d_M_lacks_40 (by decide) ?_
      refine ev_isub d_M_lacks_41 ?_
      refine ev_i2l d_M_lacks_42 ?_
      refine ev_callS (as := [vJ (Int32.toInt64 a3), vJ (0 : Int64), vJ (Int32.toInt64 ((σ.1 43 0 (a1.toNatClampNeg)) - (1 : Int32)))]) (st := []) g_M_in ml_M_76 d_M_lacks_43 rfl rfl (Nat.le_of_ble_eq_true rfl) rfl (Nat.le_of_ble_eq_true rfl) ?_
      refine f_M_in  ?_
      show Ev none (d + 1) m_M_lacks 46 [some (vR 11 0), some (vI a1), some (vI a2), some (vI a3)] [vI (bi (fp_M_in σ (Int32.toInt64 a3) (0 : Int64) (Int32.toInt64 ((σ.1 43 0 (a1.toNatClampNeg)) - (1 : Int32)))))] σ post
      refine ev_ifb_eq (tgt := 53) d_M_lacks_46 rfl (fun h6 => ?_) (fun h6 => ?_)
      · replace K := K.2 h6
        refine ev_aload_n d_M_lacks_53 rfl rfl ?_
        refine ev_iconst (v := 2) d_M_lacks_54 (by decide) ?_
        refine ev_callV (as := [vI (2 : Int32)]) (st := []) (k := 11) (i := 0) g_M_met ml_M_92 rfl rfl (by decide) (by decide) d_M_lacks_55 rfl rfl (Nat.le_of_ble_eq_true rfl) rfl (Nat.le_of_ble_eq_true rfl) ?_
        refine Ev.mono K ?_
        rintro _ s7 ⟨z8, rfl, K⟩
        show Ev none (d + 1) m_M_lacks 58 [some (vR 11 0), some (vI a1), some (vI a2), some (vI a3)] [vI z8] s7 post
        exact ev_ret (r := some (vI z8)) d_M_lacks_58 rfl rfl K
      · replace K := K.1 h6
        refine ev_iconst (v := 0) d_M_lacks_49 (by decide) ?_
        refine ev_goto (tgt := 58) d_M_lacks_50 rfl ?_
        exact ev_ret (r := some (vI (0 : Int32))) d_M_lacks_58 rfl rfl K
    · replace K := K.2 h4
      refine ev_aload_n d_M_lacks_25 rfl rfl ?_
      refine ev_iconst (v := 3) d_M_lacks_26 (by decide) ?_
      refine ev_callV (as := [vI (3 : Int32)]) (st := []) (k := 11) (i := 0) g_M_met ml_M_92 rfl rfl (by decide) (by decide) d_M_lacks_27 rfl rfl (Nat.le_of_ble_eq_true rfl) rfl (Nat.le_of_ble_eq_true rfl) ?_
      refine Ev.mono K ?_
      rintro _ s9 ⟨z10, rfl, K⟩
      show Ev none (d + 1) m_M_lacks 30 [some (vR 11 0), some (vI a1), some (vI a2), some (vI a3)] [vI z10] s9 post
      exact ev_ret (r := some (vI z10)) d_M_lacks_30 rfl rfl K
  · replace K := K.2 h2
    refine ev_aload_n d_M_lacks_9 rfl rfl ?_
    refine ev_iconst (v := 1) d_M_lacks_10 (by decide) ?_
    refine ev_callV (as := [vI (1 : Int32)]) (st := []) (k := 11) (i := 0) g_M_met ml_M_92 rfl rfl (by decide) (by decide) d_M_lacks_11 rfl rfl (Nat.le_of_ble_eq_true rfl) rfl (Nat.le_of_ble_eq_true rfl) ?_
    refine Ev.mono K ?_
    rintro _ s11 ⟨z12, rfl, K⟩
    show Ev none (d + 1) m_M_lacks 14 [some (vR 11 0), some (vI a1), some (vI a2), some (vI a3)] [vI z12] s11 post
    exact ev_ret (r := some (vI z12)) d_M_lacks_14 rfl rfl K
set_option maxRecDepth 4000 in
theorem sg_M_quarters_0 {d : Nat} {σ : ST} {a1 : Int32} {a2 : Int32} {post : Option AV → ST → Prop} (K : Ev none (d + 1) m_M_quarters 5 [some (vR 11 0), some (vI a1), some (vI a2), some (vJ (1 : Int64)), none, some (vI (0 : Int32))] [] σ post) : Ev none (d + 1) m_M_quarters 0 [some (vR 11 0), some (vI a1), some (vI a2), none, none, none] [] σ post := by
  refine ev_lconst (v := 1) d_M_quarters_0 (by decide) ?_
  refine ev_lstore_n (L' := [some (vR 11 0), some (vI a1), some (vI a2), some (vJ (1 : Int64)), none, none]) d_M_quarters_1 rfl (by decide) rfl ?_
  refine ev_iconst (v := 0) d_M_quarters_2 (by decide) ?_
  refine ev_istore (L' := [some (vR 11 0), some (vI a1), some (vI a2), some (vJ (1 : Int64)), none, some (vI (0 : Int32))]) d_M_quarters_3 (by decide) rfl ?_
  exact K
set_option maxRecDepth 4000 in
theorem sg_M_quarters_5 {d : Nat} {σ : ST} {a1 : Int32} {a2 : Int32} {a3 : Int64} {a5 : Int32} {post : Option AV → ST → Prop} (K : (((6 : Int32) ≤ a5) → (post (some (vJ a3)) σ)) ∧ (¬ ((6 : Int32) ≤ a5) → ((((fp_M_isIn σ a1 a5) → (((fp_M_isIn σ a2 a5) → (vp_in a5 6)) ∧ (¬ (fp_M_isIn σ a2 a5) → (vp_in a5 6)))) ∧ (¬ (fp_M_isIn σ a1 a5) → True)) ∧ (∀ z4 : Int64, z4 = (if fp_M_isIn σ a1 a5 then (if fp_M_isIn σ a2 a5 then (Int32.toInt64 (σ.1 53 0 (a5.toNatClampNeg))) else (Int32.toInt64 ((4 : Int32) - (σ.1 53 0 (a5.toNatClampNeg))))) else (1 : Int64)) → (Ev none (d + 1) m_M_quarters 5 [some (vR 11 0), some (vI a1), some (vI a2), some (vJ (a3 * z4)), none, some (vI (a5 + (1 : Int32)))] [] σ post))))) : Ev none (d + 1) m_M_quarters 5 [some (vR 11 0), some (vI a1), some (vI a2), some (vJ a3), none, some (vI a5)] [] σ post := by
  refine ev_iload d_M_quarters_5 rfl ?_
  refine ev_bipush (v := 6) d_M_quarters_7 (by decide) ?_
  refine ev_icmp_ge (tgt := 64) d_M_quarters_9 rfl (fun h1 => ?_) (fun h1 => ?_)
  · replace K := K.1 h1
    refine ev_lload_n d_M_quarters_64 rfl rfl ?_
    exact ev_ret (r := some (vJ a3)) d_M_quarters_65 rfl rfl K
  · replace K := K.2 h1
    refine ev_lload_n d_M_quarters_12 rfl rfl ?_
    refine ev_iload_n d_M_quarters_13 rfl rfl ?_
    refine ev_iload d_M_quarters_14 rfl ?_
    refine ev_callS (as := [vI a1, vI a5]) (st := [vJ a3]) g_M_isIn ml_M_169 d_M_quarters_16 rfl rfl (Nat.le_of_ble_eq_true rfl) rfl (Nat.le_of_ble_eq_true rfl) ?_
    refine f_M_isIn  ?_
    show Ev none (d + 1) m_M_quarters 19 [some (vR 11 0), some (vI a1), some (vI a2), some (vJ a3), none, some (vI a5)] [vI (bi (fp_M_isIn σ a1 a5)), vJ a3] σ post
    obtain ⟨KS, K⟩ := K
    obtain ⟨z4, ez4⟩ : ∃ z : Int64, z = (if fp_M_isIn σ a1 a5 then (if fp_M_isIn σ a2 a5 then (Int32.toInt64 (σ.1 53 0 (a5.toNatClampNeg))) else (Int32.toInt64 ((4 : Int32) - (σ.1 53 0 (a5.toNatClampNeg))))) else (1 : Int64)) := ⟨_, rfl⟩
    replace K := K z4 ez4
    have JJ : Ev none (d + 1) m_M_quarters 56 [some (vR 11 0), some (vI a1), some (vI a2), none, none, some (vI a5)] [vJ z4, vJ a3] σ post := by
      refine ev_lmul d_M_quarters_56 ?_
      refine ev_lstore_n (L' := [some (vR 11 0), some (vI a1), some (vI a2), some (vJ (a3 * z4)), none, some (vI a5)]) d_M_quarters_57 rfl (by decide) rfl ?_
      refine ev_iinc (v := a5 + (1 : Int32)) (L' := [some (vR 11 0), some (vI a1), some (vI a2), some (vJ (a3 * z4)), none, some (vI (a5 + (1 : Int32)))]) d_M_quarters_58 rfl (congrArg (a5 + ·) (by decide)) (by decide) rfl ?_
      refine ev_goto (tgt := 5) d_M_quarters_61 rfl ?_
      exact K
    clear K
    refine ev_ifb_ne (tgt := 26) d_M_quarters_19 rfl (fun h5 => ?_) (fun h5 => ?_)
    · replace KS := KS.1 h5
      rw [if_pos h5] at ez4
      refine ev_iload_n d_M_quarters_26 rfl rfl ?_
      refine ev_iload d_M_quarters_27 rfl ?_
      refine ev_callS (as := [vI a2, vI a5]) (st := [vJ a3]) g_M_isIn ml_M_169 d_M_quarters_29 rfl rfl (Nat.le_of_ble_eq_true rfl) rfl (Nat.le_of_ble_eq_true rfl) ?_
      refine f_M_isIn  ?_
      show Ev none (d + 1) m_M_quarters 32 [some (vR 11 0), some (vI a1), some (vI a2), some (vJ a3), none, some (vI a5)] [vI (bi (fp_M_isIn σ a2 a5)), vJ a3] σ post
      refine ev_ifb_eq (tgt := 46) d_M_quarters_32 rfl (fun h6 => ?_) (fun h6 => ?_)
      · replace KS := KS.2 h6
        rw [if_neg h6] at ez4
        have q3 := KS
        refine ev_iconst (v := 4) d_M_quarters_46 (by decide) ?_
        refine ev_aload_n d_M_quarters_47 rfl rfl ?_
        refine ev_getR gf_M_43 rfl (by decide) d_M_quarters_48 ?_
        refine ev_iload d_M_quarters_51 rfl ?_
        refine ev_iald rfl (by decide) (by decide) q3 d_M_quarters_53 ?_
        refine ev_isub d_M_quarters_54 ?_
        refine ev_i2l d_M_quarters_55 ?_
        subst ez4
        exact Ev.wk (lsub_kp (lsub_kp (lsub_kp (lsub_sk (lsub_sk (lsub_kp (lsub_nil))))))) JJ
      · replace KS := KS.1 h6
        rw [if_pos h6] at ez4
        have q2 := KS
        refine ev_aload_n d_M_quarters_35 rfl rfl ?_
        refine ev_getR gf_M_43 rfl (by decide) d_M_quarters_36 ?_
        refine ev_iload d_M_quarters_39 rfl ?_
        refine ev_iald rfl (by decide) (by decide) q2 d_M_quarters_41 ?_
        refine ev_i2l d_M_quarters_42 ?_
        refine ev_goto (tgt := 56) d_M_quarters_43 rfl ?_
        subst ez4
        exact Ev.wk (lsub_kp (lsub_kp (lsub_kp (lsub_sk (lsub_sk (lsub_kp (lsub_nil))))))) JJ
    · replace KS := KS.2 h5
      rw [if_neg h5] at ez4
      refine ev_lconst (v := 1) d_M_quarters_22 (by decide) ?_
      refine ev_goto (tgt := 56) d_M_quarters_23 rfl ?_
      subst ez4
      exact Ev.wk (lsub_kp (lsub_kp (lsub_kp (lsub_sk (lsub_sk (lsub_kp (lsub_nil))))))) JJ
set_option maxRecDepth 4000 in
theorem sg_M_readsPart_0 {d : Nat} {σ : ST}  {post : Option AV → ST → Prop} (K : (fs_M_here σ) ∧ (∀ z2 : Int32, z2 = (if (fn_M_here σ) = (112 : Int32) then (0 : Int32) else (if (fn_M_here σ) = (118 : Int32) then (1 : Int32) else (if (fn_M_here σ) = (100 : Int32) then (2 : Int32) else (-1 : Int32)))) → (((¬ (z2 = (-1 : Int32)) ∧ (¬ ((σ.1 11 0 8) = (8 : Int32)))) → (Ev none (d + 1) m_M_readsPart 68 [some (vR 11 0), none, some (vI z2), some (vI (0 : Int32)), some (vI (0 : Int32))] [] (setI σ 11 0 7 ((σ.1 11 0 7) + (1 : Int32))) post)) ∧ (¬ (¬ (z2 = (-1 : Int32)) ∧ (¬ ((σ.1 11 0 8) = (8 : Int32)))) → (post (some (vI (0 : Int32))) σ))))) : Ev none (d + 1) m_M_readsPart 0 [some (vR 11 0), none, none, none, none] [] σ post := by
  refine ev_aload_n d_M_readsPart_0 rfl rfl ?_
  obtain ⟨q1, K⟩ := K
  refine ev_callV (as := []) (st := []) (k := 11) (i := 0) g_M_here ml_M_116 rfl rfl (by decide) (by decide) d_M_readsPart_1 rfl rfl (Nat.le_of_ble_eq_true rfl) rfl (Nat.le_of_ble_eq_true rfl) ?_
  refine f_M_here q1 ?_
  show Ev none (d + 1) m_M_readsPart 4 [some (vR 11 0), none, none, none, none] [vI (fn_M_here σ)] σ post
  refine ev_istore_n (L' := [some (vR 11 0), some (vI (fn_M_here σ)), none, none, none]) d_M_readsPart_4 rfl (by decide) rfl ?_
  refine ev_iload_n d_M_readsPart_5 rfl rfl ?_
  refine ev_bipush (v := 112) d_M_readsPart_6 (by decide) ?_
  obtain ⟨z2, ez2⟩ : ∃ z : Int32, z = (if (fn_M_here σ) = (112 : Int32) then (0 : Int32) else (if (fn_M_here σ) = (118 : Int32) then (1 : Int32) else (if (fn_M_here σ) = (100 : Int32) then (2 : Int32) else (-1 : Int32)))) := ⟨_, rfl⟩
  replace K := K z2 ez2
  have JJ : Ev none (d + 1) m_M_readsPart 36 [some (vR 11 0), none, none, none, none] [vI z2] σ post := by
    refine ev_istore_n (L' := [some (vR 11 0), none, some (vI z2), none, none]) d_M_readsPart_36 rfl (by decide) rfl ?_
    refine ev_iload_n d_M_readsPart_37 rfl rfl ?_
    refine ev_iconst (v := -1) d_M_readsPart_38 (by decide) ?_
    obtain ⟨w3, e4⟩ : ∃ w : Int32, w = bi (¬ (z2 = (-1 : Int32)) ∧ (¬ ((σ.1 11 0 8) = (8 : Int32)))) := ⟨_, rfl⟩
    have J1 : w3 = 1 → Ev none (d + 1) m_M_readsPart 53 [some (vR 11 0), none, some (vI z2), none, none] [] σ post := by
      intro e41
      replace K := K.1 (bi_1.mp ((e4.symm).trans e41))
      refine ev_aload_n d_M_readsPart_53 rfl rfl ?_
      refine ev_dup d_M_readsPart_54 rfl ?_
      refine ev_getI gf_M_110 rfl (by decide) d_M_readsPart_55 ?_
      refine ev_iconst (v := 1) d_M_readsPart_58 (by decide) ?_
      refine ev_iadd d_M_readsPart_59 ?_
      refine ev_putI gp_M_110 rfl (by decide) d_M_readsPart_60 ?_
      refine ev_iconst (v := 0) d_M_readsPart_63 (by decide) ?_
      refine ev_istore_n (L' := [some (vR 11 0), none, some (vI z2), some (vI (0 : Int32)), none]) d_M_readsPart_64 rfl (by decide) rfl ?_
      refine ev_iconst (v := 0) d_M_readsPart_65 (by decide) ?_
      refine ev_istore (L' := [some (vR 11 0), none, some (vI z2), some (vI (0 : Int32)), some (vI (0 : Int32))]) d_M_readsPart_66 (by decide) rfl ?_
      exact K
    have J0 : w3 = 0 → Ev none (d + 1) m_M_readsPart 51 [some (vR 11 0), none, some (vI z2), none, none] [] σ post := by
      intro e40
      replace K := K.2 (bi_0.mp ((e4.symm).trans e40))
      refine ev_iconst (v := 0) d_M_readsPart_51 (by decide) ?_
      exact ev_ret (r := some (vI (0 : Int32))) d_M_readsPart_52 rfl ⟨rfl, (by decide)⟩ K
    clear K
    refine ev_icmp_eq (tgt := 51) d_M_readsPart_39 rfl (fun h5 => ?_) (fun h5 => ?_)
    · rw [b5t h5] at e4
      exact J0 e4
    · rw [b5f h5] at e4
      refine ev_aload_n d_M_readsPart_42 rfl rfl ?_
      refine ev_getI gf_M_113 rfl (by decide) d_M_readsPart_43 ?_
      refine ev_bipush (v := 8) d_M_readsPart_46 (by decide) ?_
      refine ev_icmp_ne (tgt := 53) d_M_readsPart_48 rfl (fun h6 => ?_) (fun h6 => ?_)
      · rw [bi_t h6] at e4
        exact J1 e4
      · rw [bi_f (not_not_intro h6)] at e4
        exact J0 e4
  clear K
  refine ev_icmp_ne (tgt := 15) d_M_readsPart_8 rfl (fun h7 => ?_) (fun h7 => ?_)
  · rw [if_neg h7] at ez2
    refine ev_iload_n d_M_readsPart_15 rfl rfl ?_
    refine ev_bipush (v := 118) d_M_readsPart_16 (by decide) ?_
    refine ev_icmp_ne (tgt := 25) d_M_readsPart_18 rfl (fun h8 => ?_) (fun h8 => ?_)
    · rw [if_neg h8] at ez2
      refine ev_iload_n d_M_readsPart_25 rfl rfl ?_
      refine ev_bipush (v := 100) d_M_readsPart_26 (by decide) ?_
      refine ev_icmp_ne (tgt := 35) d_M_readsPart_28 rfl (fun h9 => ?_) (fun h9 => ?_)
      · rw [if_neg h9] at ez2
        refine ev_iconst (v := -1) d_M_readsPart_35 (by decide) ?_
        subst ez2
        exact Ev.wk (lsub_kp (lsub_sk (lsub_sk (lsub_sk (lsub_sk (lsub_nil)))))) JJ
      · rw [if_pos h9] at ez2
        refine ev_iconst (v := 2) d_M_readsPart_31 (by decide) ?_
        refine ev_goto (tgt := 36) d_M_readsPart_32 rfl ?_
        subst ez2
        exact Ev.wk (lsub_kp (lsub_sk (lsub_sk (lsub_sk (lsub_sk (lsub_nil)))))) JJ
    · rw [if_pos h8] at ez2
      refine ev_iconst (v := 1) d_M_readsPart_21 (by decide) ?_
      refine ev_goto (tgt := 36) d_M_readsPart_22 rfl ?_
      subst ez2
      exact Ev.wk (lsub_kp (lsub_sk (lsub_sk (lsub_sk (lsub_sk (lsub_nil)))))) JJ
  · rw [if_pos h7] at ez2
    refine ev_iconst (v := 0) d_M_readsPart_11 (by decide) ?_
    refine ev_goto (tgt := 36) d_M_readsPart_12 rfl ?_
    subst ez2
    exact Ev.wk (lsub_kp (lsub_sk (lsub_sk (lsub_sk (lsub_sk (lsub_nil)))))) JJ
set_option maxRecDepth 4000 in
theorem sg_M_readsPart_68 {d : Nat} {σ : ST} {a2 : Int32} {a3 : Int32} {a4 : Int32} {post : Option AV → ST → Prop} (K : (((2 : Int32) ≤ a4) → (((a3 = 0) → (post (some (vI (0 : Int32))) (setI σ 11 0 7 ((σ.1 11 0 7) - (2 : Int32))))) ∧ (¬ (a3 = 0) → ((vp_in (σ.1 11 0 8) 8) ∧ ((vp_in ((setI σ 47 0 ((σ.1 11 0 8).toNatClampNeg) a2).1 11 0 8) 8) ∧ (post (some (vI (1 : Int32))) (setI (setI (setI σ 47 0 ((σ.1 11 0 8).toNatClampNeg) a2) 48 0 (((setI σ 47 0 ((σ.1 11 0 8).toNatClampNeg) a2).1 11 0 8).toNatClampNeg) a3) 11 0 8 (((setI (setI σ 47 0 ((σ.1 11 0 8).toNatClampNeg) a2) 48 0 (((setI σ 47 0 ((σ.1 11 0 8).toNatClampNeg) a2).1 11 0 8).toNatClampNeg) a3).1 11 0 8) + (1 : Int32))))))))) ∧ (¬ ((2 : Int32) ≤ a4) → ((fs_M_here σ) ∧ (((fp_M_in σ (Int32.toInt64 (fn_M_here σ)) (48 : Int64) (57 : Int64)) → ((fs_M_here σ) ∧ (Ev none (d + 1) m_M_readsPart 68 [some (vR 11 0), none, some (vI a2), some (vI ((((10 : Int32) * a3) + (fn_M_here σ)) - (48 : Int32))), some (vI (a4 + (1 : Int32)))] [] (setI σ 11 0 7 ((σ.1 11 0 7) + (1 : Int32))) post))) ∧ (¬ (fp_M_in σ (Int32.toInt64 (fn_M_here σ)) (48 : Int64) (57 : Int64)) → (post (some (vI (0 : Int32))) σ)))))) : Ev none (d + 1) m_M_readsPart 68 [some (vR 11 0), none, some (vI a2), some (vI a3), some (vI a4)] [] σ post := by
  refine ev_iload d_M_readsPart_68 rfl ?_
  refine ev_iconst (v := 2) d_M_readsPart_70 (by decide) ?_
  refine ev_icmp_ge (tgt := 122) d_M_readsPart_71 rfl (fun h1 => ?_) (fun h1 => ?_)
  · replace K := K.1 h1
    refine ev_iload_n d_M_readsPart_122 rfl rfl ?_
    refine ev_if_ne (tgt := 138) d_M_readsPart_123 rfl (fun h2 => ?_) (fun h2 => ?_)
    · replace K := K.2 h2
      refine ev_aload_n d_M_readsPart_138 rfl rfl ?_
      refine ev_getR gf_M_25 rfl (by decide) d_M_readsPart_139 ?_
      refine ev_aload_n d_M_readsPart_142 rfl rfl ?_
      refine ev_getI gf_M_113 rfl (by decide) d_M_readsPart_143 ?_
      refine ev_iload_n d_M_readsPart_146 rfl rfl ?_
      obtain ⟨q3, K⟩ := K
      refine ev_iast rfl (by decide) (by decide) q3 d_M_readsPart_147 ?_
      refine ev_aload_n d_M_readsPart_148 rfl rfl ?_
      refine ev_getR gf_M_28 rfl (by decide) d_M_readsPart_149 ?_
      refine ev_aload_n d_M_readsPart_152 rfl rfl ?_
      refine ev_getI gf_M_113 rfl (by decide) d_M_readsPart_153 ?_
      refine ev_iload_n d_M_readsPart_156 rfl rfl ?_
      obtain ⟨q4, K⟩ := K
      refine ev_iast rfl (by decide) (by decide) q4 d_M_readsPart_157 ?_
      refine ev_aload_n d_M_readsPart_158 rfl rfl ?_
      refine ev_dup d_M_readsPart_159 rfl ?_
      refine ev_getI gf_M_113 rfl (by decide) d_M_readsPart_160 ?_
      refine ev_iconst (v := 1) d_M_readsPart_163 (by decide) ?_
      refine ev_iadd d_M_readsPart_164 ?_
      refine ev_putI gp_M_113 rfl (by decide) d_M_readsPart_165 ?_
      refine ev_iconst (v := 1) d_M_readsPart_168 (by decide) ?_
      exact ev_ret (r := some (vI (1 : Int32))) d_M_readsPart_169 rfl ⟨rfl, (by decide)⟩ K
    · replace K := K.1 h2
      refine ev_aload_n d_M_readsPart_126 rfl rfl ?_
      refine ev_dup d_M_readsPart_127 rfl ?_
      refine ev_getI gf_M_110 rfl (by decide) d_M_readsPart_128 ?_
      refine ev_iconst (v := 2) d_M_readsPart_131 (by decide) ?_
      refine ev_isub d_M_readsPart_132 ?_
      refine ev_putI gp_M_110 rfl (by decide) d_M_readsPart_133 ?_
      refine ev_iconst (v := 0) d_M_readsPart_136 (by decide) ?_
      exact ev_ret (r := some (vI (0 : Int32))) d_M_readsPart_137 rfl ⟨rfl, (by decide)⟩ K
  · replace K := K.2 h1
    refine ev_aload_n d_M_readsPart_74 rfl rfl ?_
    obtain ⟨q5, K⟩ := K
    refine ev_callV (as := []) (st := []) (k := 11) (i := 0) g_M_here ml_M_116 rfl rfl (by decide) (by decide) d_M_readsPart_75 rfl rfl (Nat.le_of_ble_eq_true rfl) rfl (Nat.le_of_ble_eq_true rfl) ?_
    refine f_M_here q5 ?_
    show Ev none (d + 1) m_M_readsPart 78 [some (vR 11 0), none, some (vI a2), some (vI a3), some (vI a4)] [vI (fn_M_here σ)] σ post
    refine ev_i2l d_M_readsPart_78 ?_
    refine ev_ldc2 d_M_readsPart_79 cn_M_120 ?_
    refine ev_ldc2 d_M_readsPart_82 cn_M_122 ?_
    refine ev_callS (as := [vJ (Int32.toInt64 (fn_M_here σ)), vJ (48 : Int64), vJ (57 : Int64)]) (st := []) g_M_in ml_M_76 d_M_readsPart_85 rfl rfl (Nat.le_of_ble_eq_true rfl) rfl (Nat.le_of_ble_eq_true rfl) ?_
    refine f_M_in  ?_
    show Ev none (d + 1) m_M_readsPart 88 [some (vR 11 0), none, some (vI a2), some (vI a3), some (vI a4)] [vI (bi (fp_M_in σ (Int32.toInt64 (fn_M_here σ)) (48 : Int64) (57 : Int64)))] σ post
    refine ev_ifb_ne (tgt := 93) d_M_readsPart_88 rfl (fun h6 => ?_) (fun h6 => ?_)
    · replace K := K.1 h6
      refine ev_bipush (v := 10) d_M_readsPart_93 (by decide) ?_
      refine ev_iload_n d_M_readsPart_95 rfl rfl ?_
      refine ev_imul d_M_readsPart_96 ?_
      refine ev_aload_n d_M_readsPart_97 rfl rfl ?_
      obtain ⟨q7, K⟩ := K
      refine ev_callV (as := []) (st := [vI ((10 : Int32) * a3)]) (k := 11) (i := 0) g_M_here ml_M_116 rfl rfl (by decide) (by decide) d_M_readsPart_98 rfl rfl (Nat.le_of_ble_eq_true rfl) rfl (Nat.le_of_ble_eq_true rfl) ?_
      refine f_M_here q7 ?_
      show Ev none (d + 1) m_M_readsPart 101 [some (vR 11 0), none, some (vI a2), some (vI a3), some (vI a4)] [vI (fn_M_here σ), vI ((10 : Int32) * a3)] σ post
      refine ev_iadd d_M_readsPart_101 ?_
      refine ev_bipush (v := 48) d_M_readsPart_102 (by decide) ?_
      refine ev_isub d_M_readsPart_104 ?_
      refine ev_istore_n (L' := [some (vR 11 0), none, some (vI a2), some (vI ((((10 : Int32) * a3) + (fn_M_here σ)) - (48 : Int32))), some (vI a4)]) d_M_readsPart_105 rfl (by decide) rfl ?_
      refine ev_aload_n d_M_readsPart_106 rfl rfl ?_
      refine ev_dup d_M_readsPart_107 rfl ?_
      refine ev_getI gf_M_110 rfl (by decide) d_M_readsPart_108 ?_
      refine ev_iconst (v := 1) d_M_readsPart_111 (by decide) ?_
      refine ev_iadd d_M_readsPart_112 ?_
      refine ev_putI gp_M_110 rfl (by decide) d_M_readsPart_113 ?_
      refine ev_iinc (v := a4 + (1 : Int32)) (L' := [some (vR 11 0), none, some (vI a2), some (vI ((((10 : Int32) * a3) + (fn_M_here σ)) - (48 : Int32))), some (vI (a4 + (1 : Int32)))]) d_M_readsPart_116 rfl (congrArg (a4 + ·) (by decide)) (by decide) rfl ?_
      refine ev_goto (tgt := 68) d_M_readsPart_119 rfl ?_
      exact K
    · replace K := K.2 h6
      refine ev_iconst (v := 0) d_M_readsPart_91 (by decide) ?_
      exact ev_ret (r := some (vI (0 : Int32))) d_M_readsPart_92 rfl ⟨rfl, (by decide)⟩ K
set_option maxRecDepth 4000 in
theorem sg_M_type_0 {d : Nat} {σ : ST} {a1 : Int32} {post : Option AV → ST → Prop} (K : ((fp_M_in σ (Int32.toInt64 a1) (0 : Int64) (255 : Int64)) → ((((σ.1 11 0 6) = (60 : Int32)) → (post (some (vI (-4 : Int32))) σ)) ∧ (¬ ((σ.1 11 0 6) = (60 : Int32)) → ((vp_in (σ.1 11 0 6) 60) ∧ (post (some (vI ((setI (setI σ 46 0 ((σ.1 11 0 6).toNatClampNeg) a1) 11 0 6 (((setI σ 46 0 ((σ.1 11 0 6).toNatClampNeg) a1).1 11 0 6) + (1 : Int32))).1 11 0 6))) (setI (setI σ 46 0 ((σ.1 11 0 6).toNatClampNeg) a1) 11 0 6 (((setI σ 46 0 ((σ.1 11 0 6).toNatClampNeg) a1).1 11 0 6) + (1 : Int32)))))))) ∧ (¬ (fp_M_in σ (Int32.toInt64 a1) (0 : Int64) (255 : Int64)) → (post (some (vI (-2 : Int32))) σ))) : Ev none (d + 1) m_M_type 0 [some (vR 11 0), some (vI a1)] [] σ post := by
  refine ev_iload_n d_M_type_0 rfl rfl ?_
  refine ev_i2l d_M_type_1 ?_
  refine ev_lconst (v := 0) d_M_type_2 (by decide) ?_
  refine ev_ldc2 d_M_type_3 cn_M_105 ?_
  refine ev_callS (as := [vJ (Int32.toInt64 a1), vJ (0 : Int64), vJ (255 : Int64)]) (st := []) g_M_in ml_M_76 d_M_type_6 rfl rfl (Nat.le_of_ble_eq_true rfl) rfl (Nat.le_of_ble_eq_true rfl) ?_
  refine f_M_in  ?_
  show Ev none (d + 1) m_M_type 9 [some (vR 11 0), some (vI a1)] [vI (bi (fp_M_in σ (Int32.toInt64 a1) (0 : Int64) (255 : Int64)))] σ post
  refine ev_ifb_ne (tgt := 15) d_M_type_9 rfl (fun h1 => ?_) (fun h1 => ?_)
  · replace K := K.1 h1
    refine ev_aload_n d_M_type_15 rfl rfl ?_
    refine ev_getI gf_M_107 rfl (by decide) d_M_type_16 ?_
    refine ev_bipush (v := 60) d_M_type_19 (by decide) ?_
    refine ev_icmp_ne (tgt := 27) d_M_type_21 rfl (fun h2 => ?_) (fun h2 => ?_)
    · replace K := K.2 h2
      refine ev_aload_n d_M_type_27 rfl rfl ?_
      refine ev_getR gf_M_22 rfl (by decide) d_M_type_28 ?_
      refine ev_aload_n d_M_type_31 rfl rfl ?_
      refine ev_getI gf_M_107 rfl (by decide) d_M_type_32 ?_
      refine ev_iload_n d_M_type_35 rfl rfl ?_
      obtain ⟨q3, K⟩ := K
      refine ev_iast rfl (by decide) (by decide) q3 d_M_type_36 ?_
      refine ev_aload_n d_M_type_37 rfl rfl ?_
      refine ev_dup d_M_type_38 rfl ?_
      refine ev_getI gf_M_107 rfl (by decide) d_M_type_39 ?_
      refine ev_iconst (v := 1) d_M_type_42 (by decide) ?_
      refine ev_iadd d_M_type_43 ?_
      refine ev_putI gp_M_107 rfl (by decide) d_M_type_44 ?_
      refine ev_aload_n d_M_type_47 rfl rfl ?_
      refine ev_getI gf_M_107 rfl (by decide) d_M_type_48 ?_
      exact ev_ret (r := some (vI ((setI (setI σ 46 0 ((σ.1 11 0 6).toNatClampNeg) a1) 11 0 6 (((setI σ 46 0 ((σ.1 11 0 6).toNatClampNeg) a1).1 11 0 6) + (1 : Int32))).1 11 0 6))) d_M_type_51 rfl rfl K
    · replace K := K.1 h2
      refine ev_bipush (v := -4) d_M_type_24 (by decide) ?_
      exact ev_ret (r := some (vI (-4 : Int32))) d_M_type_26 rfl rfl K
  · replace K := K.2 h1
    refine ev_bipush (v := -2) d_M_type_12 (by decide) ?_
    exact ev_ret (r := some (vI (-2 : Int32))) d_M_type_14 rfl rfl K
set_option maxRecDepth 4000 in
theorem sg_M_copy_0 {d : Nat} {σ : ST} {a1 : Int32} {a2 : Int32} {a3 : Int32} {a4 : Int32} {a5 : Int32} {post : Option AV → ST → Prop} (K : ((fp_M_isSheet σ a1) → (((fp_M_isSheet σ a3) → ((vp_in a1 4) ∧ ((((σ.1 42 0 (a1.toNatClampNeg)) < 0) → (Ev none (d + 1) m_M_met 0 [some (vR 11 0), some (vI (1 : Int32))] [] σ (fun r s5 => ∃ z6 : Int32, r = some (vI z6) ∧ (post (some (vI z6)) s5)))) ∧ (¬ ((σ.1 42 0 (a1.toNatClampNeg)) < 0) → ((vp_in a3 4) ∧ (((0 ≤ (σ.1 42 0 (a3.toNatClampNeg))) → ((vp_in a1 4) ∧ ((vp_in a3 4) ∧ ((((σ.1 42 0 (a1.toNatClampNeg)) = (σ.1 42 0 (a3.toNatClampNeg))) → ((((a2 < 0) → True) ∧ (¬ (a2 < 0) → (((a4 < 0) → True) ∧ (¬ (a4 < 0) → (((a5 < 0) → True) ∧ (¬ (a5 < 0) → ((vp_in a1 4) ∧ ((((Int32.toInt64 (σ.1 43 0 (a1.toNatClampNeg))) < ((Int32.toInt64 a2) + (Int32.toInt64 a5))) → True) ∧ (¬ ((Int32.toInt64 (σ.1 43 0 (a1.toNatClampNeg))) < ((Int32.toInt64 a2) + (Int32.toInt64 a5))) → (vp_in a3 4)))))))))) ∧ ((¬ (a2 < 0) ∧ (¬ (a4 < 0) ∧ (¬ (a5 < 0) ∧ (¬ ((Int32.toInt64 (σ.1 43 0 (a1.toNatClampNeg))) < ((Int32.toInt64 a2) + (Int32.toInt64 a5))) ∧ (((Int32.toInt64 a4) + (Int32.toInt64 a5)) ≤ (Int32.toInt64 (σ.1 43 0 (a3.toNatClampNeg)))))))) → (Ev none (d + 2) m_M_copy 120 [some (vR 11 0), some (vI a1), some (vI a2), some (vI a3), some (vI a4), some (vI a5), some (vI (0 : Int32))] [] σ post)) ∧ (¬ (¬ (a2 < 0) ∧ (¬ (a4 < 0) ∧ (¬ (a5 < 0) ∧ (¬ ((Int32.toInt64 (σ.1 43 0 (a1.toNatClampNeg))) < ((Int32.toInt64 a2) + (Int32.toInt64 a5))) ∧ (((Int32.toInt64 a4) + (Int32.toInt64 a5)) ≤ (Int32.toInt64 (σ.1 43 0 (a3.toNatClampNeg)))))))) → (Ev none (d + 1) m_M_met 0 [some (vR 11 0), some (vI (2 : Int32))] [] σ (fun r s16 => ∃ z17 : Int32, r = some (vI z17) ∧ (post (some (vI z17)) s16)))))) ∧ (¬ ((σ.1 42 0 (a1.toNatClampNeg)) = (σ.1 42 0 (a3.toNatClampNeg))) → (Ev none (d + 1) m_M_met 0 [some (vR 11 0), some (vI (4 : Int32))] [] σ (fun r s23 => ∃ z24 : Int32, r = some (vI z24) ∧ (post (some (vI z24)) s23)))))))) ∧ (¬ (0 ≤ (σ.1 42 0 (a3.toNatClampNeg))) → (Ev none (d + 1) m_M_met 0 [some (vR 11 0), some (vI (1 : Int32))] [] σ (fun r s25 => ∃ z26 : Int32, r = some (vI z26) ∧ (post (some (vI z26)) s25)))))))))) ∧ (¬ (fp_M_isSheet σ a3) → (post (some (vI (-2 : Int32))) σ)))) ∧ (¬ (fp_M_isSheet σ a1) → (post (some (vI (-2 : Int32))) σ))) : Ev none (d + 2) m_M_copy 0 [some (vR 11 0), some (vI a1), some (vI a2), some (vI a3), some (vI a4), some (vI a5), none] [] σ post := by
  refine ev_iload_n d_M_copy_0 rfl rfl ?_
  refine ev_callS (as := [vI a1]) (st := []) g_M_isSheet ml_M_86 d_M_copy_1 rfl rfl (Nat.le_of_ble_eq_true rfl) rfl (Nat.le_of_ble_eq_true rfl) ?_
  refine f_M_isSheet  ?_
  show Ev none (d + 2) m_M_copy 4 [some (vR 11 0), some (vI a1), some (vI a2), some (vI a3), some (vI a4), some (vI a5), none] [vI (bi (fp_M_isSheet σ a1))] σ post
  refine ev_ifb_eq (tgt := 14) d_M_copy_4 rfl (fun h1 => ?_) (fun h1 => ?_)
  · replace K := K.2 h1
    refine ev_bipush (v := -2) d_M_copy_14 (by decide) ?_
    exact ev_ret (r := some (vI (-2 : Int32))) d_M_copy_16 rfl rfl K
  · replace K := K.1 h1
    refine ev_iload_n d_M_copy_7 rfl rfl ?_
    refine ev_callS (as := [vI a3]) (st := []) g_M_isSheet ml_M_86 d_M_copy_8 rfl rfl (Nat.le_of_ble_eq_true rfl) rfl (Nat.le_of_ble_eq_true rfl) ?_
    refine f_M_isSheet  ?_
    show Ev none (d + 2) m_M_copy 11 [some (vR 11 0), some (vI a1), some (vI a2), some (vI a3), some (vI a4), some (vI a5), none] [vI (bi (fp_M_isSheet σ a3))] σ post
    refine ev_ifb_ne (tgt := 17) d_M_copy_11 rfl (fun h2 => ?_) (fun h2 => ?_)
    · replace K := K.1 h2
      refine ev_aload_n d_M_copy_17 rfl rfl ?_
      refine ev_getR gf_M_7 rfl (by decide) d_M_copy_18 ?_
      refine ev_iload_n d_M_copy_21 rfl rfl ?_
      obtain ⟨q3, K⟩ := K
      refine ev_iald rfl (by decide) (by decide) q3 d_M_copy_22 ?_
      refine ev_if_lt (tgt := 35) d_M_copy_23 rfl (fun h4 => ?_) (fun h4 => ?_)
      · replace K := K.1 h4
        refine ev_aload_n d_M_copy_35 rfl rfl ?_
        refine ev_iconst (v := 1) d_M_copy_36 (by decide) ?_
        refine ev_callV (as := [vI (1 : Int32)]) (st := []) (k := 11) (i := 0) g_M_met ml_M_92 rfl rfl (by decide) (by decide) d_M_copy_37 rfl rfl (Nat.le_of_ble_eq_true rfl) rfl (Nat.le_of_ble_eq_true rfl) ?_
        refine Ev.mono K ?_
        rintro _ s5 ⟨z6, rfl, K⟩
        show Ev none (d + 2) m_M_copy 40 [some (vR 11 0), some (vI a1), some (vI a2), some (vI a3), some (vI a4), some (vI a5), none] [vI z6] s5 post
        exact ev_ret (r := some (vI z6)) d_M_copy_40 rfl rfl K
      · replace K := K.2 h4
        refine ev_aload_n d_M_copy_26 rfl rfl ?_
        refine ev_getR gf_M_7 rfl (by decide) d_M_copy_27 ?_
        refine ev_iload_n d_M_copy_30 rfl rfl ?_
        obtain ⟨q7, K⟩ := K
        refine ev_iald rfl (by decide) (by decide) q7 d_M_copy_31 ?_
        refine ev_if_ge (tgt := 41) d_M_copy_32 rfl (fun h8 => ?_) (fun h8 => ?_)
        · replace K := K.1 h8
          refine ev_aload_n d_M_copy_41 rfl rfl ?_
          refine ev_getR gf_M_7 rfl (by decide) d_M_copy_42 ?_
          refine ev_iload_n d_M_copy_45 rfl rfl ?_
          obtain ⟨q9, K⟩ := K
          refine ev_iald rfl (by decide) (by decide) q9 d_M_copy_46 ?_
          refine ev_aload_n d_M_copy_47 rfl rfl ?_
          refine ev_getR gf_M_7 rfl (by decide) d_M_copy_48 ?_
          refine ev_iload_n d_M_copy_51 rfl rfl ?_
          obtain ⟨q10, K⟩ := K
          refine ev_iald rfl (by decide) (by decide) q10 d_M_copy_52 ?_
          refine ev_icmp_eq (tgt := 62) d_M_copy_53 rfl (fun h11 => ?_) (fun h11 => ?_)
          · replace K := K.1 h11
            refine ev_iload_n d_M_copy_62 rfl rfl ?_
            obtain ⟨KS, K⟩ := K
            obtain ⟨w14, e15⟩ : ∃ w : Int32, w = bi (¬ (a2 < 0) ∧ (¬ (a4 < 0) ∧ (¬ (a5 < 0) ∧ (¬ ((Int32.toInt64 (σ.1 43 0 (a1.toNatClampNeg))) < ((Int32.toInt64 a2) + (Int32.toInt64 a5))) ∧ (((Int32.toInt64 a4) + (Int32.toInt64 a5)) ≤ (Int32.toInt64 (σ.1 43 0 (a3.toNatClampNeg)))))))) := ⟨_, rfl⟩
            have J1 : w14 = 1 → Ev none (d + 2) m_M_copy 117 [some (vR 11 0), some (vI a1), some (vI a2), some (vI a3), some (vI a4), some (vI a5), none] [] σ post := by
              intro e151
              replace K := K.1 (bi_1.mp ((e15.symm).trans e151))
              refine ev_iconst (v := 0) d_M_copy_117 (by decide) ?_
              refine ev_istore (L' := [some (vR 11 0), some (vI a1), some (vI a2), some (vI a3), some (vI a4), some (vI a5), some (vI (0 : Int32))]) d_M_copy_118 (by decide) rfl ?_
              exact K
            have J0 : w14 = 0 → Ev none (d + 2) m_M_copy 111 [some (vR 11 0), some (vI a1), some (vI a2), some (vI a3), some (vI a4), some (vI a5), none] [] σ post := by
              intro e150
              replace K := K.2 (bi_0.mp ((e15.symm).trans e150))
              refine ev_aload_n d_M_copy_111 rfl rfl ?_
              refine ev_iconst (v := 2) d_M_copy_112 (by decide) ?_
              refine ev_callV (as := [vI (2 : Int32)]) (st := []) (k := 11) (i := 0) g_M_met ml_M_92 rfl rfl (by decide) (by decide) d_M_copy_113 rfl rfl (Nat.le_of_ble_eq_true rfl) rfl (Nat.le_of_ble_eq_true rfl) ?_
              refine Ev.mono K ?_
              rintro _ s16 ⟨z17, rfl, K⟩
              show Ev none (d + 2) m_M_copy 116 [some (vR 11 0), some (vI a1), some (vI a2), some (vI a3), some (vI a4), some (vI a5), none] [vI z17] s16 post
              exact ev_ret (r := some (vI z17)) d_M_copy_116 rfl rfl K
            clear K
            refine ev_if_lt (tgt := 111) d_M_copy_63 rfl (fun h18 => ?_) (fun h18 => ?_)
            · replace KS := KS.1 h18
              rw [b5t h18] at e15
              exact J0 e15
            · replace KS := KS.2 h18
              rw [b5f h18] at e15
              refine ev_iload d_M_copy_66 rfl ?_
              refine ev_if_lt (tgt := 111) d_M_copy_68 rfl (fun h19 => ?_) (fun h19 => ?_)
              · replace KS := KS.1 h19
                rw [b5t h19] at e15
                exact J0 e15
              · replace KS := KS.2 h19
                rw [b5f h19] at e15
                refine ev_iload d_M_copy_71 rfl ?_
                refine ev_if_lt (tgt := 111) d_M_copy_73 rfl (fun h20 => ?_) (fun h20 => ?_)
                · replace KS := KS.1 h20
                  rw [b5t h20] at e15
                  exact J0 e15
                · replace KS := KS.2 h20
                  rw [b5f h20] at e15
                  obtain ⟨q12, KS⟩ := KS
                  refine ev_iload_n d_M_copy_76 rfl rfl ?_
                  refine ev_i2l d_M_copy_77 ?_
                  refine ev_iload d_M_copy_78 rfl ?_
                  refine ev_i2l d_M_copy_80 ?_
                  refine ev_ladd d_M_copy_81 ?_
                  refine ev_aload_n d_M_copy_82 rfl rfl ?_
                  refine ev_getR gf_M_13 rfl (by decide) d_M_copy_83 ?_
                  refine ev_iload_n d_M_copy_86 rfl rfl ?_
                  refine ev_iald rfl (by decide) (by decide) q12 d_M_copy_87 ?_
                  refine ev_i2l d_M_copy_88 ?_
                  refine ev_lcmp d_M_copy_89 ?_
                  refine ev_ifc_gt (tgt := 111) d_M_copy_90 rfl (fun h21 => ?_) (fun h21 => ?_)
                  · replace KS := KS.1 h21
                    rw [b5t h21] at e15
                    exact J0 e15
                  · replace KS := KS.2 h21
                    rw [b5f h21] at e15
                    have q13 := KS
                    refine ev_iload d_M_copy_93 rfl ?_
                    refine ev_i2l d_M_copy_95 ?_
                    refine ev_iload d_M_copy_96 rfl ?_
                    refine ev_i2l d_M_copy_98 ?_
                    refine ev_ladd d_M_copy_99 ?_
                    refine ev_aload_n d_M_copy_100 rfl rfl ?_
                    refine ev_getR gf_M_13 rfl (by decide) d_M_copy_101 ?_
                    refine ev_iload_n d_M_copy_104 rfl rfl ?_
                    refine ev_iald rfl (by decide) (by decide) q13 d_M_copy_105 ?_
                    refine ev_i2l d_M_copy_106 ?_
                    refine ev_lcmp d_M_copy_107 ?_
                    refine ev_ifc_le (tgt := 117) d_M_copy_108 rfl (fun h22 => ?_) (fun h22 => ?_)
                    · rw [bi_t h22] at e15
                      exact J1 e15
                    · rw [bi_f h22] at e15
                      exact J0 e15
          · replace K := K.2 h11
            refine ev_aload_n d_M_copy_56 rfl rfl ?_
            refine ev_iconst (v := 4) d_M_copy_57 (by decide) ?_
            refine ev_callV (as := [vI (4 : Int32)]) (st := []) (k := 11) (i := 0) g_M_met ml_M_92 rfl rfl (by decide) (by decide) d_M_copy_58 rfl rfl (Nat.le_of_ble_eq_true rfl) rfl (Nat.le_of_ble_eq_true rfl) ?_
            refine Ev.mono K ?_
            rintro _ s23 ⟨z24, rfl, K⟩
            show Ev none (d + 2) m_M_copy 61 [some (vR 11 0), some (vI a1), some (vI a2), some (vI a3), some (vI a4), some (vI a5), none] [vI z24] s23 post
            exact ev_ret (r := some (vI z24)) d_M_copy_61 rfl rfl K
        · replace K := K.2 h8
          refine ev_aload_n d_M_copy_35 rfl rfl ?_
          refine ev_iconst (v := 1) d_M_copy_36 (by decide) ?_
          refine ev_callV (as := [vI (1 : Int32)]) (st := []) (k := 11) (i := 0) g_M_met ml_M_92 rfl rfl (by decide) (by decide) d_M_copy_37 rfl rfl (Nat.le_of_ble_eq_true rfl) rfl (Nat.le_of_ble_eq_true rfl) ?_
          refine Ev.mono K ?_
          rintro _ s25 ⟨z26, rfl, K⟩
          show Ev none (d + 2) m_M_copy 40 [some (vR 11 0), some (vI a1), some (vI a2), some (vI a3), some (vI a4), some (vI a5), none] [vI z26] s25 post
          exact ev_ret (r := some (vI z26)) d_M_copy_40 rfl rfl K
    · replace K := K.2 h2
      refine ev_bipush (v := -2) d_M_copy_14 (by decide) ?_
      exact ev_ret (r := some (vI (-2 : Int32))) d_M_copy_16 rfl rfl K
set_option maxRecDepth 4000 in
theorem sg_M_copy_120 {d : Nat} {σ : ST} {a1 : Int32} {a2 : Int32} {a3 : Int32} {a4 : Int32} {a5 : Int32} {a6 : Int32} {post : Option AV → ST → Prop} (K : ((a5 ≤ a6) → (Ev none (d + 2) m_M_copy 157 [some (vR 11 0), none, none, some (vI a3), some (vI a4), some (vI a5), some (vI (0 : Int32))] [] σ post)) ∧ (¬ (a5 ≤ a6) → ((vp_in ((((60 : Int32) * a1) + a2) + a6) 240) ∧ ((vp_in a6 60) ∧ (Ev none (d + 2) m_M_copy 120 [some (vR 11 0), some (vI a1), some (vI a2), some (vI a3), some (vI a4), some (vI a5), some (vI (a6 + (1 : Int32)))] [] (setI σ 45 0 (a6.toNatClampNeg) (σ.1 44 0 (((((60 : Int32) * a1) + a2) + a6).toNatClampNeg))) post))))) : Ev none (d + 2) m_M_copy 120 [some (vR 11 0), some (vI a1), some (vI a2), some (vI a3), some (vI a4), some (vI a5), some (vI a6)] [] σ post := by
  refine ev_iload d_M_copy_120 rfl ?_
  refine ev_iload d_M_copy_122 rfl ?_
  refine ev_icmp_ge (tgt := 154) d_M_copy_124 rfl (fun h3 => ?_) (fun h3 => ?_)
  · replace K := K.1 h3
    refine ev_iconst (v := 0) d_M_copy_154 (by decide) ?_
    refine ev_istore (L' := [some (vR 11 0), some (vI a1), some (vI a2), some (vI a3), some (vI a4), some (vI a5), some (vI (0 : Int32))]) d_M_copy_155 (by decide) rfl ?_
    exact Ev.wk (lsub_kp (lsub_sk (lsub_sk (lsub_kp (lsub_kp (lsub_kp (lsub_kp (lsub_nil)))))))) K
  · replace K := K.2 h3
    refine ev_aload_n d_M_copy_127 rfl rfl ?_
    refine ev_getR gf_M_19 rfl (by decide) d_M_copy_128 ?_
    refine ev_iload d_M_copy_131 rfl ?_
    refine ev_aload_n d_M_copy_133 rfl rfl ?_
    refine ev_getR gf_M_16 rfl (by decide) d_M_copy_134 ?_
    refine ev_bipush (v := 60) d_M_copy_137 (by decide) ?_
    refine ev_iload_n d_M_copy_139 rfl rfl ?_
    refine ev_imul d_M_copy_140 ?_
    refine ev_iload_n d_M_copy_141 rfl rfl ?_
    refine ev_iadd d_M_copy_142 ?_
    refine ev_iload d_M_copy_143 rfl ?_
    refine ev_iadd d_M_copy_145 ?_
    obtain ⟨q4, K⟩ := K
    refine ev_iald rfl (by decide) (by decide) q4 d_M_copy_146 ?_
    obtain ⟨q5, K⟩ := K
    refine ev_iast rfl (by decide) (by decide) q5 d_M_copy_147 ?_
    refine ev_iinc (v := a6 + (1 : Int32)) (L' := [some (vR 11 0), some (vI a1), some (vI a2), some (vI a3), some (vI a4), some (vI a5), some (vI (a6 + (1 : Int32)))]) d_M_copy_148 rfl (congrArg (a6 + ·) (by decide)) (by decide) rfl ?_
    refine ev_goto (tgt := 120) d_M_copy_151 rfl ?_
    exact K
set_option maxRecDepth 4000 in
theorem sg_M_copy_157 {d : Nat} {σ : ST} {a3 : Int32} {a4 : Int32} {a5 : Int32} {a6 : Int32} {post : Option AV → ST → Prop} (K : ((a5 ≤ a6) → (post (some (vI (1 : Int32))) σ)) ∧ (¬ (a5 ≤ a6) → ((vp_in a6 60) ∧ ((vp_in ((((60 : Int32) * a3) + a4) + a6) 240) ∧ (Ev none (d + 2) m_M_copy 157 [some (vR 11 0), none, none, some (vI a3), some (vI a4), some (vI a5), some (vI (a6 + (1 : Int32)))] [] (setI σ 44 0 (((((60 : Int32) * a3) + a4) + a6).toNatClampNeg) (σ.1 45 0 (a6.toNatClampNeg))) post))))) : Ev none (d + 2) m_M_copy 157 [some (vR 11 0), none, none, some (vI a3), some (vI a4), some (vI a5), some (vI a6)] [] σ post := by
  refine ev_iload d_M_copy_157 rfl ?_
  refine ev_iload d_M_copy_159 rfl ?_
  refine ev_icmp_ge (tgt := 192) d_M_copy_161 rfl (fun h1 => ?_) (fun h1 => ?_)
  · replace K := K.1 h1
    refine ev_iconst (v := 1) d_M_copy_192 (by decide) ?_
    exact ev_ret (r := some (vI (1 : Int32))) d_M_copy_193 rfl rfl K
  · replace K := K.2 h1
    refine ev_aload_n d_M_copy_164 rfl rfl ?_
    refine ev_getR gf_M_16 rfl (by decide) d_M_copy_165 ?_
    refine ev_bipush (v := 60) d_M_copy_168 (by decide) ?_
    refine ev_iload_n d_M_copy_170 rfl rfl ?_
    refine ev_imul d_M_copy_171 ?_
    refine ev_iload d_M_copy_172 rfl ?_
    refine ev_iadd d_M_copy_174 ?_
    refine ev_iload d_M_copy_175 rfl ?_
    refine ev_iadd d_M_copy_177 ?_
    refine ev_aload_n d_M_copy_178 rfl rfl ?_
    refine ev_getR gf_M_19 rfl (by decide) d_M_copy_179 ?_
    refine ev_iload d_M_copy_182 rfl ?_
    obtain ⟨q2, K⟩ := K
    refine ev_iald rfl (by decide) (by decide) q2 d_M_copy_184 ?_
    obtain ⟨q3, K⟩ := K
    refine ev_iast rfl (by decide) (by decide) q3 d_M_copy_185 ?_
    refine ev_iinc (v := a6 + (1 : Int32)) (L' := [some (vR 11 0), none, none, some (vI a3), some (vI a4), some (vI a5), some (vI (a6 + (1 : Int32)))]) d_M_copy_186 rfl (congrArg (a6 + ·) (by decide)) (by decide) rfl ?_
    refine ev_goto (tgt := 157) d_M_copy_189 rfl ?_
    exact K
set_option maxRecDepth 4000 in
theorem sg_M_get_0 {d : Nat} {σ : ST} {a1 : Int32} {a2 : Int32} {a3 : Int32} {post : Option AV → ST → Prop} (K : ((¬ (fp_M_isSheet σ a1) ∨ (¬ (fp_M_in σ (Int32.toInt64 a2) (0 : Int64) (2 : Int64)))) → (post (some (vI (-2147483648 : Int32))) σ)) ∧ (¬ (¬ (fp_M_isSheet σ a1) ∨ (¬ (fp_M_in σ (Int32.toInt64 a2) (0 : Int64) (2 : Int64)))) → (Ev none (d + 1) m_M_lacks 0 [some (vR 11 0), some (vI a1), some (vI a2), some (vI a3)] [] σ (fun r s3 => ∃ z4 : Int32, r = some (vI z4) ∧ (((z4 = 0) → ((vp_in (((60 : Int32) * a1) + a3) 240) ∧ (post (some (vI (s3.1 44 0 ((((60 : Int32) * a1) + a3).toNatClampNeg)))) s3))) ∧ (¬ (z4 = 0) → (post (some (vI (-2147483648 : Int32))) s3))))))) : Ev none (d + 2) m_M_get 0 [some (vR 11 0), some (vI a1), some (vI a2), some (vI a3)] [] σ post := by
  refine ev_iload_n d_M_get_0 rfl rfl ?_
  refine ev_callS (as := [vI a1]) (st := []) g_M_isSheet ml_M_86 d_M_get_1 rfl rfl (Nat.le_of_ble_eq_true rfl) rfl (Nat.le_of_ble_eq_true rfl) ?_
  refine f_M_isSheet  ?_
  show Ev none (d + 2) m_M_get 4 [some (vR 11 0), some (vI a1), some (vI a2), some (vI a3)] [vI (bi (fp_M_isSheet σ a1))] σ post
  obtain ⟨w1, e2⟩ : ∃ w : Int32, w = bi (¬ (fp_M_isSheet σ a1) ∨ (¬ (fp_M_in σ (Int32.toInt64 a2) (0 : Int64) (2 : Int64)))) := ⟨_, rfl⟩
  have J1 : w1 = 1 → Ev none (d + 2) m_M_get 29 [some (vR 11 0), some (vI a1), some (vI a2), some (vI a3)] [] σ post := by
    intro e21
    replace K := K.1 (bi_1.mp ((e2.symm).trans e21))
    refine ev_ldc d_M_get_29 cn_M_104 ?_
    exact ev_ret (r := some (vI (-2147483648 : Int32))) d_M_get_31 rfl rfl K
  have J0 : w1 = 0 → Ev none (d + 2) m_M_get 19 [some (vR 11 0), some (vI a1), some (vI a2), some (vI a3)] [] σ post := by
    intro e20
    replace K := K.2 (bi_0.mp ((e2.symm).trans e20))
    refine ev_aload_n d_M_get_19 rfl rfl ?_
    refine ev_iload_n d_M_get_20 rfl rfl ?_
    refine ev_iload_n d_M_get_21 rfl rfl ?_
    refine ev_iload_n d_M_get_22 rfl rfl ?_
    refine ev_callV (as := [vI a1, vI a2, vI a3]) (st := []) (k := 11) (i := 0) g_M_lacks ml_M_96 rfl rfl (by decide) (by decide) d_M_get_23 rfl rfl (Nat.le_of_ble_eq_true rfl) rfl (Nat.le_of_ble_eq_true rfl) ?_
    refine Ev.mono K ?_
    rintro _ s3 ⟨z4, rfl, K⟩
    show Ev none (d + 2) m_M_get 26 [some (vR 11 0), some (vI a1), some (vI a2), some (vI a3)] [vI z4] s3 post
    refine ev_if_eq (tgt := 32) d_M_get_26 rfl (fun h5 => ?_) (fun h5 => ?_)
    · replace K := K.1 h5
      refine ev_aload_n d_M_get_32 rfl rfl ?_
      refine ev_getR gf_M_16 rfl (by decide) d_M_get_33 ?_
      refine ev_bipush (v := 60) d_M_get_36 (by decide) ?_
      refine ev_iload_n d_M_get_38 rfl rfl ?_
      refine ev_imul d_M_get_39 ?_
      refine ev_iload_n d_M_get_40 rfl rfl ?_
      refine ev_iadd d_M_get_41 ?_
      obtain ⟨q6, K⟩ := K
      refine ev_iald rfl (by decide) (by decide) q6 d_M_get_42 ?_
      exact ev_ret (r := some (vI (s3.1 44 0 ((((60 : Int32) * a1) + a3).toNatClampNeg)))) d_M_get_43 rfl rfl K
    · replace K := K.2 h5
      refine ev_ldc d_M_get_29 cn_M_104 ?_
      exact ev_ret (r := some (vI (-2147483648 : Int32))) d_M_get_31 rfl rfl K
  clear K
  refine ev_ifb_eq (tgt := 29) d_M_get_4 rfl (fun h7 => ?_) (fun h7 => ?_)
  · rw [b6f h7] at e2
    exact J1 e2
  · rw [b6t h7] at e2
    refine ev_iload_n d_M_get_7 rfl rfl ?_
    refine ev_i2l d_M_get_8 ?_
    refine ev_lconst (v := 0) d_M_get_9 (by decide) ?_
    refine ev_ldc2 d_M_get_10 cn_M_90 ?_
    refine ev_callS (as := [vJ (Int32.toInt64 a2), vJ (0 : Int64), vJ (2 : Int64)]) (st := []) g_M_in ml_M_76 d_M_get_13 rfl rfl (Nat.le_of_ble_eq_true rfl) rfl (Nat.le_of_ble_eq_true rfl) ?_
    refine f_M_in  ?_
    show Ev none (d + 2) m_M_get 16 [some (vR 11 0), some (vI a1), some (vI a2), some (vI a3)] [vI (bi (fp_M_in σ (Int32.toInt64 a2) (0 : Int64) (2 : Int64)))] σ post
    refine ev_ifb_eq (tgt := 29) d_M_get_16 rfl (fun h8 => ?_) (fun h8 => ?_)
    · rw [bi_t h8] at e2
      exact J1 e2
    · rw [bi_f (not_not_intro h8)] at e2
      exact J0 e2
set_option maxRecDepth 4000 in
theorem sg_M_lay_0 {d : Nat} {σ : ST} {a1 : Int32} {a2 : Int32} {a3 : Int32} {a4 : Int32} {post : Option AV → ST → Prop} (K : (((fp_M_isSheet σ a1) ∧ (fp_M_in σ (Int32.toInt64 a2) (0 : Int64) (2 : Int64))) → (Ev none (d + 1) m_M_lacks 0 [some (vR 11 0), some (vI a1), some (vI a2), some (vI a3)] [] σ (fun r s3 => ∃ z4 : Int32, r = some (vI z4) ∧ (((z4 = 0) → ((vp_in (((60 : Int32) * a1) + a3) 240) ∧ (post (some (vI (1 : Int32))) (setI s3 44 0 ((((60 : Int32) * a1) + a3).toNatClampNeg) (fn_M_cut s3 a2 a4))))) ∧ (¬ (z4 = 0) → (post (some (vI z4)) s3)))))) ∧ (¬ ((fp_M_isSheet σ a1) ∧ (fp_M_in σ (Int32.toInt64 a2) (0 : Int64) (2 : Int64))) → (post (some (vI (-2 : Int32))) σ))) : Ev none (d + 2) m_M_lay 0 [some (vR 11 0), some (vI a1), some (vI a2), some (vI a3), some (vI a4), none] [] σ post := by
  refine ev_iload_n d_M_lay_0 rfl rfl ?_
  refine ev_callS (as := [vI a1]) (st := []) g_M_isSheet ml_M_86 d_M_lay_1 rfl rfl (Nat.le_of_ble_eq_true rfl) rfl (Nat.le_of_ble_eq_true rfl) ?_
  refine f_M_isSheet  ?_
  show Ev none (d + 2) m_M_lay 4 [some (vR 11 0), some (vI a1), some (vI a2), some (vI a3), some (vI a4), none] [vI (bi (fp_M_isSheet σ a1))] σ post
  obtain ⟨w1, e2⟩ : ∃ w : Int32, w = bi ((fp_M_isSheet σ a1) ∧ (fp_M_in σ (Int32.toInt64 a2) (0 : Int64) (2 : Int64))) := ⟨_, rfl⟩
  have J1 : w1 = 1 → Ev none (d + 2) m_M_lay 22 [some (vR 11 0), some (vI a1), some (vI a2), some (vI a3), some (vI a4), none] [] σ post := by
    intro e21
    replace K := K.1 (bi_1.mp ((e2.symm).trans e21))
    refine ev_aload_n d_M_lay_22 rfl rfl ?_
    refine ev_iload_n d_M_lay_23 rfl rfl ?_
    refine ev_iload_n d_M_lay_24 rfl rfl ?_
    refine ev_iload_n d_M_lay_25 rfl rfl ?_
    refine ev_callV (as := [vI a1, vI a2, vI a3]) (st := []) (k := 11) (i := 0) g_M_lacks ml_M_96 rfl rfl (by decide) (by decide) d_M_lay_26 rfl rfl (Nat.le_of_ble_eq_true rfl) rfl (Nat.le_of_ble_eq_true rfl) ?_
    refine Ev.mono K ?_
    rintro _ s3 ⟨z4, rfl, K⟩
    show Ev none (d + 2) m_M_lay 29 [some (vR 11 0), some (vI a1), some (vI a2), some (vI a3), some (vI a4), none] [vI z4] s3 post
    refine ev_istore (L' := [some (vR 11 0), some (vI a1), some (vI a2), some (vI a3), some (vI a4), some (vI z4)]) d_M_lay_29 (by decide) rfl ?_
    refine ev_iload d_M_lay_31 rfl ?_
    refine ev_if_eq (tgt := 39) d_M_lay_33 rfl (fun h5 => ?_) (fun h5 => ?_)
    · replace K := K.1 h5
      refine ev_aload_n d_M_lay_39 rfl rfl ?_
      refine ev_getR gf_M_16 rfl (by decide) d_M_lay_40 ?_
      refine ev_bipush (v := 60) d_M_lay_43 (by decide) ?_
      refine ev_iload_n d_M_lay_45 rfl rfl ?_
      refine ev_imul d_M_lay_46 ?_
      refine ev_iload_n d_M_lay_47 rfl rfl ?_
      refine ev_iadd d_M_lay_48 ?_
      refine ev_iload_n d_M_lay_49 rfl rfl ?_
      refine ev_iload d_M_lay_50 rfl ?_
      refine ev_callS (as := [vI a2, vI a4]) (st := [vI (((60 : Int32) * a1) + a3), vR 44 0]) g_M_cut ml_M_100 d_M_lay_52 rfl rfl (Nat.le_of_ble_eq_true rfl) rfl (Nat.le_of_ble_eq_true rfl) ?_
      refine f_M_cut  ?_
      show Ev none (d + 2) m_M_lay 55 [some (vR 11 0), some (vI a1), some (vI a2), some (vI a3), some (vI a4), some (vI z4)] [vI (fn_M_cut s3 a2 a4), vI (((60 : Int32) * a1) + a3), vR 44 0] s3 post
      obtain ⟨q6, K⟩ := K
      refine ev_iast rfl (by decide) (by decide) q6 d_M_lay_55 ?_
      refine ev_iconst (v := 1) d_M_lay_56 (by decide) ?_
      exact ev_ret (r := some (vI (1 : Int32))) d_M_lay_57 rfl rfl K
    · replace K := K.2 h5
      refine ev_iload d_M_lay_36 rfl ?_
      exact ev_ret (r := some (vI z4)) d_M_lay_38 rfl rfl K
  have J0 : w1 = 0 → Ev none (d + 2) m_M_lay 19 [some (vR 11 0), some (vI a1), some (vI a2), some (vI a3), some (vI a4), none] [] σ post := by
    intro e20
    replace K := K.2 (bi_0.mp ((e2.symm).trans e20))
    refine ev_bipush (v := -2) d_M_lay_19 (by decide) ?_
    exact ev_ret (r := some (vI (-2 : Int32))) d_M_lay_21 rfl rfl K
  clear K
  refine ev_ifb_eq (tgt := 19) d_M_lay_4 rfl (fun h7 => ?_) (fun h7 => ?_)
  · rw [b3f h7] at e2
    exact J0 e2
  · rw [b3t h7] at e2
    refine ev_iload_n d_M_lay_7 rfl rfl ?_
    refine ev_i2l d_M_lay_8 ?_
    refine ev_lconst (v := 0) d_M_lay_9 (by decide) ?_
    refine ev_ldc2 d_M_lay_10 cn_M_90 ?_
    refine ev_callS (as := [vJ (Int32.toInt64 a2), vJ (0 : Int64), vJ (2 : Int64)]) (st := []) g_M_in ml_M_76 d_M_lay_13 rfl rfl (Nat.le_of_ble_eq_true rfl) rfl (Nat.le_of_ble_eq_true rfl) ?_
    refine f_M_in  ?_
    show Ev none (d + 2) m_M_lay 16 [some (vR 11 0), some (vI a1), some (vI a2), some (vI a3), some (vI a4), none] [vI (bi (fp_M_in σ (Int32.toInt64 a2) (0 : Int64) (2 : Int64)))] σ post
    refine ev_ifb_ne (tgt := 22) d_M_lay_16 rfl (fun h8 => ?_) (fun h8 => ?_)
    · rw [bi_t h8] at e2
      exact J1 e2
    · rw [bi_f h8] at e2
      exact J0 e2
set_option maxRecDepth 4000 in
theorem sg_M_like_0 {d : Nat} {σ : ST} {a1 : Int32} {a2 : Int32} {a3 : Int32} {post : Option AV → ST → Prop} (K : (((fp_M_isReader σ a1) ∧ ((fp_M_isAnyChapter σ a2) ∧ (fp_M_isTwo σ a3))) → ((vp_in a1 6) ∧ ((vp_in a1 6) ∧ ((vp_in a1 6) ∧ (post (some (vI ((isr (σ.1 50 0 (a1.toNatClampNeg)) a2) &&& (1 : Int32)))) (setI σ 50 0 (a1.toNatClampNeg) (((σ.1 50 0 (a1.toNatClampNeg)) &&& ((isl (1 : Int32) a2) ^^^ (-1 : Int32))) ||| (isl a3 a2)))))))) ∧ (¬ ((fp_M_isReader σ a1) ∧ ((fp_M_isAnyChapter σ a2) ∧ (fp_M_isTwo σ a3))) → (post (some (vI (-2 : Int32))) σ))) : Ev none (d + 2) m_M_like 0 [some (vR 11 0), some (vI a1), some (vI a2), some (vI a3), none] [] σ post := by
  refine ev_iload_n d_M_like_0 rfl rfl ?_
  refine ev_callS (as := [vI a1]) (st := []) g_M_isReader ml_M_149 d_M_like_1 rfl rfl (Nat.le_of_ble_eq_true rfl) rfl (Nat.le_of_ble_eq_true rfl) ?_
  refine f_M_isReader  ?_
  show Ev none (d + 2) m_M_like 4 [some (vR 11 0), some (vI a1), some (vI a2), some (vI a3), none] [vI (bi (fp_M_isReader σ a1))] σ post
  obtain ⟨w1, e2⟩ : ∃ w : Int32, w = bi ((fp_M_isReader σ a1) ∧ ((fp_M_isAnyChapter σ a2) ∧ (fp_M_isTwo σ a3))) := ⟨_, rfl⟩
  have J1 : w1 = 1 → Ev none (d + 2) m_M_like 24 [some (vR 11 0), some (vI a1), some (vI a2), some (vI a3), none] [] σ post := by
    intro e21
    replace K := K.1 (bi_1.mp ((e2.symm).trans e21))
    refine ev_aload_n d_M_like_24 rfl rfl ?_
    refine ev_getR gf_M_34 rfl (by decide) d_M_like_25 ?_
    refine ev_iload_n d_M_like_28 rfl rfl ?_
    obtain ⟨q3, K⟩ := K
    refine ev_iald rfl (by decide) (by decide) q3 d_M_like_29 ?_
    refine ev_iload_n d_M_like_30 rfl rfl ?_
    refine ev_ishr d_M_like_31 ?_
    refine ev_iconst (v := 1) d_M_like_32 (by decide) ?_
    refine ev_iand d_M_like_33 ?_
    refine ev_istore (L' := [some (vR 11 0), some (vI a1), some (vI a2), some (vI a3), some (vI ((isr (σ.1 50 0 (a1.toNatClampNeg)) a2) &&& (1 : Int32)))]) d_M_like_34 (by decide) rfl ?_
    refine ev_aload_n d_M_like_36 rfl rfl ?_
    refine ev_getR gf_M_34 rfl (by decide) d_M_like_37 ?_
    refine ev_iload_n d_M_like_40 rfl rfl ?_
    refine ev_aload_n d_M_like_41 rfl rfl ?_
    refine ev_getR gf_M_34 rfl (by decide) d_M_like_42 ?_
    refine ev_iload_n d_M_like_45 rfl rfl ?_
    obtain ⟨q4, K⟩ := K
    refine ev_iald rfl (by decide) (by decide) q4 d_M_like_46 ?_
    refine ev_iconst (v := 1) d_M_like_47 (by decide) ?_
    refine ev_iload_n d_M_like_48 rfl rfl ?_
    refine ev_ishl d_M_like_49 ?_
    refine ev_iconst (v := -1) d_M_like_50 (by decide) ?_
    refine ev_ixor d_M_like_51 ?_
    refine ev_iand d_M_like_52 ?_
    refine ev_iload_n d_M_like_53 rfl rfl ?_
    refine ev_iload_n d_M_like_54 rfl rfl ?_
    refine ev_ishl d_M_like_55 ?_
    refine ev_ior d_M_like_56 ?_
    obtain ⟨q5, K⟩ := K
    refine ev_iast rfl (by decide) (by decide) q5 d_M_like_57 ?_
    refine ev_iload d_M_like_58 rfl ?_
    exact ev_ret (r := some (vI ((isr (σ.1 50 0 (a1.toNatClampNeg)) a2) &&& (1 : Int32)))) d_M_like_60 rfl rfl K
  have J0 : w1 = 0 → Ev none (d + 2) m_M_like 21 [some (vR 11 0), some (vI a1), some (vI a2), some (vI a3), none] [] σ post := by
    intro e20
    replace K := K.2 (bi_0.mp ((e2.symm).trans e20))
    refine ev_bipush (v := -2) d_M_like_21 (by decide) ?_
    exact ev_ret (r := some (vI (-2 : Int32))) d_M_like_23 rfl rfl K
  clear K
  refine ev_ifb_eq (tgt := 21) d_M_like_4 rfl (fun h6 => ?_) (fun h6 => ?_)
  · rw [b3f h6] at e2
    exact J0 e2
  · rw [b3t h6] at e2
    refine ev_iload_n d_M_like_7 rfl rfl ?_
    refine ev_callS (as := [vI a2]) (st := []) g_M_isAnyChapter ml_M_157 d_M_like_8 rfl rfl (Nat.le_of_ble_eq_true rfl) rfl (Nat.le_of_ble_eq_true rfl) ?_
    refine f_M_isAnyChapter  ?_
    show Ev none (d + 2) m_M_like 11 [some (vR 11 0), some (vI a1), some (vI a2), some (vI a3), none] [vI (bi (fp_M_isAnyChapter σ a2))] σ post
    refine ev_ifb_eq (tgt := 21) d_M_like_11 rfl (fun h7 => ?_) (fun h7 => ?_)
    · rw [b3f h7] at e2
      exact J0 e2
    · rw [b3t h7] at e2
      refine ev_iload_n d_M_like_14 rfl rfl ?_
      refine ev_callS (as := [vI a3]) (st := []) g_M_isTwo ml_M_160 d_M_like_15 rfl rfl (Nat.le_of_ble_eq_true rfl) rfl (Nat.le_of_ble_eq_true rfl) ?_
      refine f_M_isTwo  ?_
      show Ev none (d + 2) m_M_like 18 [some (vR 11 0), some (vI a1), some (vI a2), some (vI a3), none] [vI (bi (fp_M_isTwo σ a3))] σ post
      refine ev_ifb_ne (tgt := 24) d_M_like_18 rfl (fun h8 => ?_) (fun h8 => ?_)
      · rw [bi_t h8] at e2
        exact J1 e2
      · rw [bi_f h8] at e2
        exact J0 e2
set_option maxRecDepth 4000 in
theorem sg_M_lose_0 {d : Nat} {σ : ST} {a1 : Int32} {post : Option AV → ST → Prop} (K : ((fp_M_isSheet σ a1) → ((vp_in a1 4) ∧ (((0 ≤ (σ.1 42 0 (a1.toNatClampNeg))) → ((vp_in a1 4) ∧ ((vp_in a1 4) ∧ (post (some (vI ((setI σ 42 0 (a1.toNatClampNeg) (-1 : Int32)).1 43 0 (a1.toNatClampNeg)))) (setI σ 42 0 (a1.toNatClampNeg) (-1 : Int32)))))) ∧ (¬ (0 ≤ (σ.1 42 0 (a1.toNatClampNeg))) → (Ev none (d + 1) m_M_met 0 [some (vR 11 0), some (vI (1 : Int32))] [] σ (fun r s6 => ∃ z7 : Int32, r = some (vI z7) ∧ (post (some (vI z7)) s6))))))) ∧ (¬ (fp_M_isSheet σ a1) → (post (some (vI (-2 : Int32))) σ))) : Ev none (d + 2) m_M_lose 0 [some (vR 11 0), some (vI a1)] [] σ post := by
  refine ev_iload_n d_M_lose_0 rfl rfl ?_
  refine ev_callS (as := [vI a1]) (st := []) g_M_isSheet ml_M_86 d_M_lose_1 rfl rfl (Nat.le_of_ble_eq_true rfl) rfl (Nat.le_of_ble_eq_true rfl) ?_
  refine f_M_isSheet  ?_
  show Ev none (d + 2) m_M_lose 4 [some (vR 11 0), some (vI a1)] [vI (bi (fp_M_isSheet σ a1))] σ post
  refine ev_ifb_ne (tgt := 10) d_M_lose_4 rfl (fun h1 => ?_) (fun h1 => ?_)
  · replace K := K.1 h1
    refine ev_aload_n d_M_lose_10 rfl rfl ?_
    refine ev_getR gf_M_7 rfl (by decide) d_M_lose_11 ?_
    refine ev_iload_n d_M_lose_14 rfl rfl ?_
    obtain ⟨q2, K⟩ := K
    refine ev_iald rfl (by decide) (by decide) q2 d_M_lose_15 ?_
    refine ev_if_ge (tgt := 25) d_M_lose_16 rfl (fun h3 => ?_) (fun h3 => ?_)
    · replace K := K.1 h3
      refine ev_aload_n d_M_lose_25 rfl rfl ?_
      refine ev_getR gf_M_7 rfl (by decide) d_M_lose_26 ?_
      refine ev_iload_n d_M_lose_29 rfl rfl ?_
      refine ev_iconst (v := -1) d_M_lose_30 (by decide) ?_
      obtain ⟨q4, K⟩ := K
      refine ev_iast rfl (by decide) (by decide) q4 d_M_lose_31 ?_
      refine ev_aload_n d_M_lose_32 rfl rfl ?_
      refine ev_getR gf_M_13 rfl (by decide) d_M_lose_33 ?_
      refine ev_iload_n d_M_lose_36 rfl rfl ?_
      obtain ⟨q5, K⟩ := K
      refine ev_iald rfl (by decide) (by decide) q5 d_M_lose_37 ?_
      exact ev_ret (r := some (vI ((setI σ 42 0 (a1.toNatClampNeg) (-1 : Int32)).1 43 0 (a1.toNatClampNeg)))) d_M_lose_38 rfl rfl K
    · replace K := K.2 h3
      refine ev_aload_n d_M_lose_19 rfl rfl ?_
      refine ev_iconst (v := 1) d_M_lose_20 (by decide) ?_
      refine ev_callV (as := [vI (1 : Int32)]) (st := []) (k := 11) (i := 0) g_M_met ml_M_92 rfl rfl (by decide) (by decide) d_M_lose_21 rfl rfl (Nat.le_of_ble_eq_true rfl) rfl (Nat.le_of_ble_eq_true rfl) ?_
      refine Ev.mono K ?_
      rintro _ s6 ⟨z7, rfl, K⟩
      show Ev none (d + 2) m_M_lose 24 [some (vR 11 0), some (vI a1)] [vI z7] s6 post
      exact ev_ret (r := some (vI z7)) d_M_lose_24 rfl rfl K
  · replace K := K.2 h1
    refine ev_bipush (v := -2) d_M_lose_7 (by decide) ?_
    exact ev_ret (r := some (vI (-2 : Int32))) d_M_lose_9 rfl rfl K
set_option maxRecDepth 4000 in
theorem sg_M_pace_0 {d : Nat} {σ : ST} {a1 : Int32} {a2 : Int32} {a3 : Int32} {post : Option AV → ST → Prop} (K : (((fp_M_isReader σ a1) ∧ ((fp_M_in σ (Int32.toInt64 a2) (0 : Int64) (2 : Int64)) ∧ (fp_M_in σ (Int32.toInt64 a3) (1 : Int64) (9 : Int64)))) → ((vp_in (((3 : Int32) * a1) + a2) 18) ∧ ((vp_in (((3 : Int32) * a1) + a2) 18) ∧ (post (some (vI (σ.1 49 0 ((((3 : Int32) * a1) + a2).toNatClampNeg)))) (setI σ 49 0 ((((3 : Int32) * a1) + a2).toNatClampNeg) a3))))) ∧ (¬ ((fp_M_isReader σ a1) ∧ ((fp_M_in σ (Int32.toInt64 a2) (0 : Int64) (2 : Int64)) ∧ (fp_M_in σ (Int32.toInt64 a3) (1 : Int64) (9 : Int64)))) → (post (some (vI (-2 : Int32))) σ))) : Ev none (d + 2) m_M_pace 0 [some (vR 11 0), some (vI a1), some (vI a2), some (vI a3), none] [] σ post := by
  refine ev_iload_n d_M_pace_0 rfl rfl ?_
  refine ev_callS (as := [vI a1]) (st := []) g_M_isReader ml_M_149 d_M_pace_1 rfl rfl (Nat.le_of_ble_eq_true rfl) rfl (Nat.le_of_ble_eq_true rfl) ?_
  refine f_M_isReader  ?_
  show Ev none (d + 2) m_M_pace 4 [some (vR 11 0), some (vI a1), some (vI a2), some (vI a3), none] [vI (bi (fp_M_isReader σ a1))] σ post
  obtain ⟨w1, e2⟩ : ∃ w : Int32, w = bi ((fp_M_isReader σ a1) ∧ ((fp_M_in σ (Int32.toInt64 a2) (0 : Int64) (2 : Int64)) ∧ (fp_M_in σ (Int32.toInt64 a3) (1 : Int64) (9 : Int64)))) := ⟨_, rfl⟩
  have J1 : w1 = 1 → Ev none (d + 2) m_M_pace 34 [some (vR 11 0), some (vI a1), some (vI a2), some (vI a3), none] [] σ post := by
    intro e21
    replace K := K.1 (bi_1.mp ((e2.symm).trans e21))
    refine ev_aload_n d_M_pace_34 rfl rfl ?_
    refine ev_getR gf_M_31 rfl (by decide) d_M_pace_35 ?_
    refine ev_iconst (v := 3) d_M_pace_38 (by decide) ?_
    refine ev_iload_n d_M_pace_39 rfl rfl ?_
    refine ev_imul d_M_pace_40 ?_
    refine ev_iload_n d_M_pace_41 rfl rfl ?_
    refine ev_iadd d_M_pace_42 ?_
    obtain ⟨q3, K⟩ := K
    refine ev_iald rfl (by decide) (by decide) q3 d_M_pace_43 ?_
    refine ev_istore (L' := [some (vR 11 0), some (vI a1), some (vI a2), some (vI a3), some (vI (σ.1 49 0 ((((3 : Int32) * a1) + a2).toNatClampNeg)))]) d_M_pace_44 (by decide) rfl ?_
    refine ev_aload_n d_M_pace_46 rfl rfl ?_
    refine ev_getR gf_M_31 rfl (by decide) d_M_pace_47 ?_
    refine ev_iconst (v := 3) d_M_pace_50 (by decide) ?_
    refine ev_iload_n d_M_pace_51 rfl rfl ?_
    refine ev_imul d_M_pace_52 ?_
    refine ev_iload_n d_M_pace_53 rfl rfl ?_
    refine ev_iadd d_M_pace_54 ?_
    refine ev_iload_n d_M_pace_55 rfl rfl ?_
    obtain ⟨q4, K⟩ := K
    refine ev_iast rfl (by decide) (by decide) q4 d_M_pace_56 ?_
    refine ev_iload d_M_pace_57 rfl ?_
    exact ev_ret (r := some (vI (σ.1 49 0 ((((3 : Int32) * a1) + a2).toNatClampNeg)))) d_M_pace_59 rfl rfl K
  have J0 : w1 = 0 → Ev none (d + 2) m_M_pace 31 [some (vR 11 0), some (vI a1), some (vI a2), some (vI a3), none] [] σ post := by
    intro e20
    replace K := K.2 (bi_0.mp ((e2.symm).trans e20))
    refine ev_bipush (v := -2) d_M_pace_31 (by decide) ?_
    exact ev_ret (r := some (vI (-2 : Int32))) d_M_pace_33 rfl rfl K
  clear K
  refine ev_ifb_eq (tgt := 31) d_M_pace_4 rfl (fun h5 => ?_) (fun h5 => ?_)
  · rw [b3f h5] at e2
    exact J0 e2
  · rw [b3t h5] at e2
    refine ev_iload_n d_M_pace_7 rfl rfl ?_
    refine ev_i2l d_M_pace_8 ?_
    refine ev_lconst (v := 0) d_M_pace_9 (by decide) ?_
    refine ev_ldc2 d_M_pace_10 cn_M_90 ?_
    refine ev_callS (as := [vJ (Int32.toInt64 a2), vJ (0 : Int64), vJ (2 : Int64)]) (st := []) g_M_in ml_M_76 d_M_pace_13 rfl rfl (Nat.le_of_ble_eq_true rfl) rfl (Nat.le_of_ble_eq_true rfl) ?_
    refine f_M_in  ?_
    show Ev none (d + 2) m_M_pace 16 [some (vR 11 0), some (vI a1), some (vI a2), some (vI a3), none] [vI (bi (fp_M_in σ (Int32.toInt64 a2) (0 : Int64) (2 : Int64)))] σ post
    refine ev_ifb_eq (tgt := 31) d_M_pace_16 rfl (fun h6 => ?_) (fun h6 => ?_)
    · rw [b3f h6] at e2
      exact J0 e2
    · rw [b3t h6] at e2
      refine ev_iload_n d_M_pace_19 rfl rfl ?_
      refine ev_i2l d_M_pace_20 ?_
      refine ev_lconst (v := 1) d_M_pace_21 (by decide) ?_
      refine ev_ldc2 d_M_pace_22 cn_M_152 ?_
      refine ev_callS (as := [vJ (Int32.toInt64 a3), vJ (1 : Int64), vJ (9 : Int64)]) (st := []) g_M_in ml_M_76 d_M_pace_25 rfl rfl (Nat.le_of_ble_eq_true rfl) rfl (Nat.le_of_ble_eq_true rfl) ?_
      refine f_M_in  ?_
      show Ev none (d + 2) m_M_pace 28 [some (vR 11 0), some (vI a1), some (vI a2), some (vI a3), none] [vI (bi (fp_M_in σ (Int32.toInt64 a3) (1 : Int64) (9 : Int64)))] σ post
      refine ev_ifb_ne (tgt := 34) d_M_pace_28 rfl (fun h7 => ?_) (fun h7 => ?_)
      · rw [bi_t h7] at e2
        exact J1 e2
      · rw [bi_f h7] at e2
        exact J0 e2
set_option maxRecDepth 4000 in
theorem sg_M_reader_0 {d : Nat} {σ : ST} {a1 : Int32} {a2 : Int32} {a3 : Int32} {post : Option AV → ST → Prop} (K : ((fp_M_isReader σ a1) → (((fp_M_in σ (Int32.toInt64 a2) (0 : Int64) (2 : Int64)) → (∀ z3 : Int64, z3 = (if a2 = 0 then (99 : Int64) else (if a2 = (1 : Int32) then (9 : Int64) else (4 : Int64))) → (((fp_M_in σ (Int32.toInt64 a3) (0 : Int64) z3) → ((((a2 = 0) → (vp_in a1 6)) ∧ (¬ (a2 = 0) → (((a2 = (1 : Int32)) → (vp_in a1 6)) ∧ (¬ (a2 = (1 : Int32)) → (vp_in a1 6))))) ∧ (∀ z8 : Int32, z8 = (if a2 = 0 then (σ.1 51 0 (a1.toNatClampNeg)) else (if a2 = (1 : Int32) then (σ.1 52 0 (a1.toNatClampNeg)) else (σ.1 53 0 (a1.toNatClampNeg)))) → (((a2 = 0) → ((vp_in a1 6) ∧ (post (some (vI z8)) (setI σ 51 0 (a1.toNatClampNeg) a3)))) ∧ (¬ (a2 = 0) → (((a2 = (1 : Int32)) → ((vp_in a1 6) ∧ (post (some (vI z8)) (setI σ 52 0 (a1.toNatClampNeg) a3)))) ∧ (¬ (a2 = (1 : Int32)) → ((vp_in a1 6) ∧ (post (some (vI z8)) (setI σ 53 0 (a1.toNatClampNeg) a3)))))))))) ∧ (¬ (fp_M_in σ (Int32.toInt64 a3) (0 : Int64) z3) → (post (some (vI (-2 : Int32))) σ))))) ∧ (¬ (fp_M_in σ (Int32.toInt64 a2) (0 : Int64) (2 : Int64)) → (post (some (vI (-2 : Int32))) σ)))) ∧ (¬ (fp_M_isReader σ a1) → (post (some (vI (-2 : Int32))) σ))) : Ev none (d + 2) m_M_reader 0 [some (vR 11 0), some (vI a1), some (vI a2), some (vI a3), none] [] σ post := by
  refine ev_iload_n d_M_reader_0 rfl rfl ?_
  refine ev_callS (as := [vI a1]) (st := []) g_M_isReader ml_M_149 d_M_reader_1 rfl rfl (Nat.le_of_ble_eq_true rfl) rfl (Nat.le_of_ble_eq_true rfl) ?_
  refine f_M_isReader  ?_
  show Ev none (d + 2) m_M_reader 4 [some (vR 11 0), some (vI a1), some (vI a2), some (vI a3), none] [vI (bi (fp_M_isReader σ a1))] σ post
  refine ev_ifb_eq (tgt := 52) d_M_reader_4 rfl (fun h1 => ?_) (fun h1 => ?_)
  · replace K := K.2 h1
    refine ev_bipush (v := -2) d_M_reader_52 (by decide) ?_
    exact ev_ret (r := some (vI (-2 : Int32))) d_M_reader_54 rfl rfl K
  · replace K := K.1 h1
    refine ev_iload_n d_M_reader_7 rfl rfl ?_
    refine ev_i2l d_M_reader_8 ?_
    refine ev_lconst (v := 0) d_M_reader_9 (by decide) ?_
    refine ev_ldc2 d_M_reader_10 cn_M_90 ?_
    refine ev_callS (as := [vJ (Int32.toInt64 a2), vJ (0 : Int64), vJ (2 : Int64)]) (st := []) g_M_in ml_M_76 d_M_reader_13 rfl rfl (Nat.le_of_ble_eq_true rfl) rfl (Nat.le_of_ble_eq_true rfl) ?_
    refine f_M_in  ?_
    show Ev none (d + 2) m_M_reader 16 [some (vR 11 0), some (vI a1), some (vI a2), some (vI a3), none] [vI (bi (fp_M_in σ (Int32.toInt64 a2) (0 : Int64) (2 : Int64)))] σ post
    refine ev_ifb_eq (tgt := 52) d_M_reader_16 rfl (fun h2 => ?_) (fun h2 => ?_)
    · replace K := K.2 h2
      refine ev_bipush (v := -2) d_M_reader_52 (by decide) ?_
      exact ev_ret (r := some (vI (-2 : Int32))) d_M_reader_54 rfl rfl K
    · replace K := K.1 h2
      refine ev_iload_n d_M_reader_19 rfl rfl ?_
      refine ev_i2l d_M_reader_20 ?_
      refine ev_lconst (v := 0) d_M_reader_21 (by decide) ?_
      refine ev_iload_n d_M_reader_22 rfl rfl ?_
      obtain ⟨z3, ez3⟩ : ∃ z : Int64, z = (if a2 = 0 then (99 : Int64) else (if a2 = (1 : Int32) then (9 : Int64) else (4 : Int64))) := ⟨_, rfl⟩
      replace K := K z3 ez3
      have JJ : Ev none (d + 2) m_M_reader 46 [some (vR 11 0), some (vI a1), some (vI a2), some (vI a3), none] [vJ z3, vJ (0 : Int64), vJ (Int32.toInt64 a3)] σ post := by
        refine ev_callS (as := [vJ (Int32.toInt64 a3), vJ (0 : Int64), vJ z3]) (st := []) g_M_in ml_M_76 d_M_reader_46 rfl rfl (Nat.le_of_ble_eq_true rfl) rfl (Nat.le_of_ble_eq_true rfl) ?_
        refine f_M_in  ?_
        show Ev none (d + 2) m_M_reader 49 [some (vR 11 0), some (vI a1), some (vI a2), some (vI a3), none] [vI (bi (fp_M_in σ (Int32.toInt64 a3) (0 : Int64) z3))] σ post
        refine ev_ifb_ne (tgt := 55) d_M_reader_49 rfl (fun h4 => ?_) (fun h4 => ?_)
        · replace K := K.1 h4
          refine ev_iload_n d_M_reader_55 rfl rfl ?_
          obtain ⟨KS, K⟩ := K
          obtain ⟨z8, ez8⟩ : ∃ z : Int32, z = (if a2 = 0 then (σ.1 51 0 (a1.toNatClampNeg)) else (if a2 = (1 : Int32) then (σ.1 52 0 (a1.toNatClampNeg)) else (σ.1 53 0 (a1.toNatClampNeg)))) := ⟨_, rfl⟩
          replace K := K z8 ez8
          have JJ : Ev none (d + 2) m_M_reader 88 [some (vR 11 0), some (vI a1), some (vI a2), some (vI a3), none] [vI z8] σ post := by
            refine ev_istore (L' := [some (vR 11 0), some (vI a1), some (vI a2), some (vI a3), some (vI z8)]) d_M_reader_88 (by decide) rfl ?_
            refine ev_iload_n d_M_reader_90 rfl rfl ?_
            refine ev_if_ne (tgt := 104) d_M_reader_91 rfl (fun h9 => ?_) (fun h9 => ?_)
            · replace K := K.2 h9
              refine ev_iload_n d_M_reader_104 rfl rfl ?_
              refine ev_iconst (v := 1) d_M_reader_105 (by decide) ?_
              refine ev_icmp_ne (tgt := 119) d_M_reader_106 rfl (fun h10 => ?_) (fun h10 => ?_)
              · replace K := K.2 h10
                refine ev_aload_n d_M_reader_119 rfl rfl ?_
                refine ev_getR gf_M_43 rfl (by decide) d_M_reader_120 ?_
                refine ev_iload_n d_M_reader_123 rfl rfl ?_
                refine ev_iload_n d_M_reader_124 rfl rfl ?_
                obtain ⟨q11, K⟩ := K
                refine ev_iast rfl (by decide) (by decide) q11 d_M_reader_125 ?_
                refine ev_iload d_M_reader_126 rfl ?_
                exact ev_ret (r := some (vI z8)) d_M_reader_128 rfl rfl K
              · replace K := K.1 h10
                refine ev_aload_n d_M_reader_109 rfl rfl ?_
                refine ev_getR gf_M_40 rfl (by decide) d_M_reader_110 ?_
                refine ev_iload_n d_M_reader_113 rfl rfl ?_
                refine ev_iload_n d_M_reader_114 rfl rfl ?_
                obtain ⟨q12, K⟩ := K
                refine ev_iast rfl (by decide) (by decide) q12 d_M_reader_115 ?_
                refine ev_goto (tgt := 126) d_M_reader_116 rfl ?_
                refine ev_iload d_M_reader_126 rfl ?_
                exact ev_ret (r := some (vI z8)) d_M_reader_128 rfl rfl K
            · replace K := K.1 h9
              refine ev_aload_n d_M_reader_94 rfl rfl ?_
              refine ev_getR gf_M_37 rfl (by decide) d_M_reader_95 ?_
              refine ev_iload_n d_M_reader_98 rfl rfl ?_
              refine ev_iload_n d_M_reader_99 rfl rfl ?_
              obtain ⟨q13, K⟩ := K
              refine ev_iast rfl (by decide) (by decide) q13 d_M_reader_100 ?_
              refine ev_goto (tgt := 126) d_M_reader_101 rfl ?_
              refine ev_iload d_M_reader_126 rfl ?_
              exact ev_ret (r := some (vI z8)) d_M_reader_128 rfl rfl K
          clear K
          refine ev_if_ne (tgt := 68) d_M_reader_56 rfl (fun h14 => ?_) (fun h14 => ?_)
          · replace KS := KS.2 h14
            rw [if_neg h14] at ez8
            refine ev_iload_n d_M_reader_68 rfl rfl ?_
            refine ev_iconst (v := 1) d_M_reader_69 (by decide) ?_
            refine ev_icmp_ne (tgt := 82) d_M_reader_70 rfl (fun h15 => ?_) (fun h15 => ?_)
            · replace KS := KS.2 h15
              rw [if_neg h15] at ez8
              have q7 := KS
              refine ev_aload_n d_M_reader_82 rfl rfl ?_
              refine ev_getR gf_M_43 rfl (by decide) d_M_reader_83 ?_
              refine ev_iload_n d_M_reader_86 rfl rfl ?_
              refine ev_iald rfl (by decide) (by decide) q7 d_M_reader_87 ?_
              subst ez8
              exact JJ
            · replace KS := KS.1 h15
              rw [if_pos h15] at ez8
              have q6 := KS
              refine ev_aload_n d_M_reader_73 rfl rfl ?_
              refine ev_getR gf_M_40 rfl (by decide) d_M_reader_74 ?_
              refine ev_iload_n d_M_reader_77 rfl rfl ?_
              refine ev_iald rfl (by decide) (by decide) q6 d_M_reader_78 ?_
              refine ev_goto (tgt := 88) d_M_reader_79 rfl ?_
              subst ez8
              exact JJ
          · replace KS := KS.1 h14
            rw [if_pos h14] at ez8
            have q5 := KS
            refine ev_aload_n d_M_reader_59 rfl rfl ?_
            refine ev_getR gf_M_37 rfl (by decide) d_M_reader_60 ?_
            refine ev_iload_n d_M_reader_63 rfl rfl ?_
            refine ev_iald rfl (by decide) (by decide) q5 d_M_reader_64 ?_
            refine ev_goto (tgt := 88) d_M_reader_65 rfl ?_
            subst ez8
            exact JJ
        · replace K := K.2 h4
          refine ev_bipush (v := -2) d_M_reader_52 (by decide) ?_
          exact ev_ret (r := some (vI (-2 : Int32))) d_M_reader_54 rfl rfl K
      clear K
      refine ev_if_ne (tgt := 32) d_M_reader_23 rfl (fun h16 => ?_) (fun h16 => ?_)
      · rw [if_neg h16] at ez3
        refine ev_iload_n d_M_reader_32 rfl rfl ?_
        refine ev_iconst (v := 1) d_M_reader_33 (by decide) ?_
        refine ev_icmp_ne (tgt := 43) d_M_reader_34 rfl (fun h17 => ?_) (fun h17 => ?_)
        · rw [if_neg h17] at ez3
          refine ev_ldc2 d_M_reader_43 cn_M_165 ?_
          subst ez3
          exact JJ
        · rw [if_pos h17] at ez3
          refine ev_ldc2 d_M_reader_37 cn_M_152 ?_
          refine ev_goto (tgt := 46) d_M_reader_40 rfl ?_
          subst ez3
          exact JJ
      · rw [if_pos h16] at ez3
        refine ev_ldc2 d_M_reader_26 cn_M_163 ?_
        refine ev_goto (tgt := 46) d_M_reader_29 rfl ?_
        subst ez3
        exact JJ
set_option maxRecDepth 4000 in
theorem sg_M_reads_0 {d : Nat} {σ : ST}  {post : Option AV → ST → Prop} (K : ∀ z1 : Int32, z1 = (bi (¬ (((setI (setI σ 11 0 7 (0 : Int32)) 11 0 8 (0 : Int32)).1 11 0 6) ≤ 0))) → (Ev none (d + 2) m_M_reads 23 [some (vR 11 0), some (vI z1)] [] (setI (setI σ 11 0 7 (0 : Int32)) 11 0 8 (0 : Int32)) post)) : Ev none (d + 2) m_M_reads 0 [some (vR 11 0), none] [] σ post := by
  refine ev_aload_n d_M_reads_0 rfl rfl ?_
  refine ev_iconst (v := 0) d_M_reads_1 (by decide) ?_
  refine ev_putI gp_M_110 rfl (by decide) d_M_reads_2 ?_
  refine ev_aload_n d_M_reads_5 rfl rfl ?_
  refine ev_iconst (v := 0) d_M_reads_6 (by decide) ?_
  refine ev_putI gp_M_113 rfl (by decide) d_M_reads_7 ?_
  refine ev_aload_n d_M_reads_10 rfl rfl ?_
  refine ev_getI gf_M_107 rfl (by decide) d_M_reads_11 ?_
  obtain ⟨z1, ez1⟩ : ∃ z : Int32, z = (bi (¬ (((setI (setI σ 11 0 7 (0 : Int32)) 11 0 8 (0 : Int32)).1 11 0 6) ≤ 0))) := ⟨_, rfl⟩
  replace K := K z1 ez1
  have JJ : Ev none (d + 2) m_M_reads 22 [some (vR 11 0), none] [vI z1] (setI (setI σ 11 0 7 (0 : Int32)) 11 0 8 (0 : Int32)) post := by
    refine ev_istore_n (L' := [some (vR 11 0), some (vI z1)]) d_M_reads_22 rfl (by decide) rfl ?_
    exact K
  clear K
  refine ev_if_le (tgt := 21) d_M_reads_14 rfl (fun h2 => ?_) (fun h2 => ?_)
  · rw [bi_f (not_not_intro h2)] at ez1
    refine ev_iconst (v := 0) d_M_reads_21 (by decide) ?_
    subst ez1
    exact JJ
  · rw [bi_t h2] at ez1
    refine ev_iconst (v := 1) d_M_reads_17 (by decide) ?_
    refine ev_goto (tgt := 22) d_M_reads_18 rfl ?_
    subst ez1
    exact JJ
set_option maxRecDepth 4000 in
theorem sg_M_reads_23 {d : Nat} {σ : ST} {a1 : Int32} {post : Option AV → ST → Prop} (K : ((a1 = 0) → (post (some (vI (-1 : Int32))) σ)) ∧ (¬ (a1 = 0) → (Ev none (d + 1) m_M_readsPart 0 [some (vR 11 0), none, none, none, none] [] σ (fun r s2 => ∃ z3 : Int32, r = some (vI z3) ∧ (((z3 = 0) → (Ev none (d + 1) m_M_none 0 [some (vR 11 0)] [] s2 (fun r s16 => ∃ z17 : Int32, r = some (vI z17) ∧ (post (some (vI z17)) s16)))) ∧ (¬ (z3 = 0) → (∀ z5 : Int32, z5 = (bi (¬ ((s2.1 11 0 6) ≤ (s2.1 11 0 7)))) → (((z5 = 0) → (∀ z7 : Int32, z7 = (bi (¬ (z5 = 0))) → (Ev none (d + 2) m_M_reads 23 [some (vR 11 0), some (vI z5)] [] (setI s2 11 0 7 ((s2.1 11 0 7) + z7)) post))) ∧ (¬ (z5 = 0) → ((fs_M_here s2) ∧ ((((fn_M_here s2) = (59 : Int32)) → (∀ z11 : Int32, z11 = (bi (¬ (z5 = 0))) → (Ev none (d + 2) m_M_reads 23 [some (vR 11 0), some (vI z5)] [] (setI s2 11 0 7 ((s2.1 11 0 7) + z11)) post))) ∧ (¬ ((fn_M_here s2) = (59 : Int32)) → (Ev none (d + 1) m_M_none 0 [some (vR 11 0)] [] s2 (fun r s13 => ∃ z14 : Int32, r = some (vI z14) ∧ (post (some (vI z14)) s13))))))))))))))) : Ev none (d + 2) m_M_reads 23 [some (vR 11 0), some (vI a1)] [] σ post := by
  refine ev_iload_n d_M_reads_23 rfl rfl ?_
  refine ev_if_eq (tgt := 95) d_M_reads_24 rfl (fun h1 => ?_) (fun h1 => ?_)
  · replace K := K.1 h1
    refine ev_iconst (v := -1) d_M_reads_95 (by decide) ?_
    exact ev_ret (r := some (vI (-1 : Int32))) d_M_reads_96 rfl rfl K
  · replace K := K.2 h1
    refine ev_aload_n d_M_reads_27 rfl rfl ?_
    refine ev_callV (as := []) (st := []) (k := 11) (i := 0) g_M_readsPart ml_M_124 rfl rfl (by decide) (by decide) d_M_reads_28 rfl rfl (Nat.le_of_ble_eq_true rfl) rfl (Nat.le_of_ble_eq_true rfl) ?_
    refine Ev.mono K ?_
    rintro _ s2 ⟨z3, rfl, K⟩
    show Ev none (d + 2) m_M_reads 31 [some (vR 11 0), some (vI a1)] [vI z3] s2 post
    refine ev_if_ne (tgt := 39) d_M_reads_31 rfl (fun h4 => ?_) (fun h4 => ?_)
    · replace K := K.2 h4
      refine ev_aload_n d_M_reads_39 rfl rfl ?_
      refine ev_getI gf_M_110 rfl (by decide) d_M_reads_40 ?_
      refine ev_aload_n d_M_reads_43 rfl rfl ?_
      refine ev_getI gf_M_107 rfl (by decide) d_M_reads_44 ?_
      obtain ⟨z5, ez5⟩ : ∃ z : Int32, z = (bi (¬ ((s2.1 11 0 6) ≤ (s2.1 11 0 7)))) := ⟨_, rfl⟩
      replace K := K z5 ez5
      have JJ : Ev none (d + 2) m_M_reads 55 [some (vR 11 0), none] [vI z5] s2 post := by
        refine ev_istore_n (L' := [some (vR 11 0), some (vI z5)]) d_M_reads_55 rfl (by decide) rfl ?_
        refine ev_iload_n d_M_reads_56 rfl rfl ?_
        refine ev_if_eq (tgt := 74) d_M_reads_57 rfl (fun h6 => ?_) (fun h6 => ?_)
        · replace K := K.1 h6
          refine ev_aload_n d_M_reads_74 rfl rfl ?_
          refine ev_dup d_M_reads_75 rfl ?_
          refine ev_getI gf_M_110 rfl (by decide) d_M_reads_76 ?_
          refine ev_iload_n d_M_reads_79 rfl rfl ?_
          obtain ⟨z7, ez7⟩ : ∃ z : Int32, z = (bi (¬ (z5 = 0))) := ⟨_, rfl⟩
          replace K := K z7 ez7
          have JJ : Ev none (d + 2) m_M_reads 88 [some (vR 11 0), some (vI z5)] [vI z7, vI (s2.1 11 0 7), vR 11 0] s2 post := by
            refine ev_iadd d_M_reads_88 ?_
            refine ev_putI gp_M_110 rfl (by decide) d_M_reads_89 ?_
            refine ev_goto (tgt := 23) d_M_reads_92 rfl ?_
            exact K
          clear K
          refine ev_if_eq (tgt := 87) d_M_reads_80 rfl (fun h8 => ?_) (fun h8 => ?_)
          · rw [bi_f (not_not_intro h8)] at ez7
            refine ev_iconst (v := 0) d_M_reads_87 (by decide) ?_
            subst ez7
            exact JJ
          · rw [bi_t h8] at ez7
            refine ev_iconst (v := 1) d_M_reads_83 (by decide) ?_
            refine ev_goto (tgt := 88) d_M_reads_84 rfl ?_
            subst ez7
            exact JJ
        · replace K := K.2 h6
          refine ev_aload_n d_M_reads_60 rfl rfl ?_
          obtain ⟨q9, K⟩ := K
          refine ev_callV (as := []) (st := []) (k := 11) (i := 0) g_M_here ml_M_116 rfl rfl (by decide) (by decide) d_M_reads_61 rfl rfl (Nat.le_of_ble_eq_true rfl) rfl (Nat.le_of_ble_eq_true rfl) ?_
          refine f_M_here q9 ?_
          show Ev none (d + 2) m_M_reads 64 [some (vR 11 0), some (vI z5)] [vI (fn_M_here s2)] s2 post
          refine ev_bipush (v := 59) d_M_reads_64 (by decide) ?_
          refine ev_icmp_eq (tgt := 74) d_M_reads_66 rfl (fun h10 => ?_) (fun h10 => ?_)
          · replace K := K.1 h10
            refine ev_aload_n d_M_reads_74 rfl rfl ?_
            refine ev_dup d_M_reads_75 rfl ?_
            refine ev_getI gf_M_110 rfl (by decide) d_M_reads_76 ?_
            refine ev_iload_n d_M_reads_79 rfl rfl ?_
            obtain ⟨z11, ez11⟩ : ∃ z : Int32, z = (bi (¬ (z5 = 0))) := ⟨_, rfl⟩
            replace K := K z11 ez11
            have JJ : Ev none (d + 2) m_M_reads 88 [some (vR 11 0), some (vI z5)] [vI z11, vI (s2.1 11 0 7), vR 11 0] s2 post := by
              refine ev_iadd d_M_reads_88 ?_
              refine ev_putI gp_M_110 rfl (by decide) d_M_reads_89 ?_
              refine ev_goto (tgt := 23) d_M_reads_92 rfl ?_
              exact K
            clear K
            refine ev_if_eq (tgt := 87) d_M_reads_80 rfl (fun h12 => ?_) (fun h12 => ?_)
            · rw [bi_f (not_not_intro h12)] at ez11
              refine ev_iconst (v := 0) d_M_reads_87 (by decide) ?_
              subst ez11
              exact JJ
            · rw [bi_t h12] at ez11
              refine ev_iconst (v := 1) d_M_reads_83 (by decide) ?_
              refine ev_goto (tgt := 88) d_M_reads_84 rfl ?_
              subst ez11
              exact JJ
          · replace K := K.2 h10
            refine ev_aload_n d_M_reads_69 rfl rfl ?_
            refine ev_callV (as := []) (st := []) (k := 11) (i := 0) g_M_none ml_M_128 rfl rfl (by decide) (by decide) d_M_reads_70 rfl rfl (Nat.le_of_ble_eq_true rfl) rfl (Nat.le_of_ble_eq_true rfl) ?_
            refine Ev.mono K ?_
            rintro _ s13 ⟨z14, rfl, K⟩
            show Ev none (d + 2) m_M_reads 73 [some (vR 11 0), some (vI z5)] [vI z14] s13 post
            exact ev_ret (r := some (vI z14)) d_M_reads_73 rfl rfl K
      clear K
      refine ev_icmp_ge (tgt := 54) d_M_reads_47 rfl (fun h15 => ?_) (fun h15 => ?_)
      · rw [bi_f (not_not_intro h15)] at ez5
        refine ev_iconst (v := 0) d_M_reads_54 (by decide) ?_
        subst ez5
        exact Ev.wk (lsub_kp (lsub_sk (lsub_nil))) JJ
      · rw [bi_t h15] at ez5
        refine ev_iconst (v := 1) d_M_reads_50 (by decide) ?_
        refine ev_goto (tgt := 55) d_M_reads_51 rfl ?_
        subst ez5
        exact Ev.wk (lsub_kp (lsub_sk (lsub_nil))) JJ
    · replace K := K.1 h4
      refine ev_aload_n d_M_reads_34 rfl rfl ?_
      refine ev_callV (as := []) (st := []) (k := 11) (i := 0) g_M_none ml_M_128 rfl rfl (by decide) (by decide) d_M_reads_35 rfl rfl (Nat.le_of_ble_eq_true rfl) rfl (Nat.le_of_ble_eq_true rfl) ?_
      refine Ev.mono K ?_
      rintro _ s16 ⟨z17, rfl, K⟩
      show Ev none (d + 2) m_M_reads 38 [some (vR 11 0), some (vI a1)] [vI z17] s16 post
      exact ev_ret (r := some (vI z17)) d_M_reads_38 rfl rfl K
set_option maxRecDepth 4000 in
theorem sg_M_set_0 {d : Nat} {σ : ST} {a1 : Int32} {a2 : Int32} {post : Option AV → ST → Prop} (K : (((fp_M_isTwo σ a1) ∧ (fp_M_in σ (Int32.toInt64 a2) (0 : Int64) (999 : Int64))) → ((vp_in a1 2) ∧ ((vp_in a1 2) ∧ (post (some (vI (σ.1 54 0 (a1.toNatClampNeg)))) (setI σ 54 0 (a1.toNatClampNeg) a2))))) ∧ (¬ ((fp_M_isTwo σ a1) ∧ (fp_M_in σ (Int32.toInt64 a2) (0 : Int64) (999 : Int64))) → (post (some (vI (-2 : Int32))) σ))) : Ev none (d + 2) m_M_set 0 [some (vR 11 0), some (vI a1), some (vI a2), none] [] σ post := by
  refine ev_iload_n d_M_set_0 rfl rfl ?_
  refine ev_callS (as := [vI a1]) (st := []) g_M_isTwo ml_M_160 d_M_set_1 rfl rfl (Nat.le_of_ble_eq_true rfl) rfl (Nat.le_of_ble_eq_true rfl) ?_
  refine f_M_isTwo  ?_
  show Ev none (d + 2) m_M_set 4 [some (vR 11 0), some (vI a1), some (vI a2), none] [vI (bi (fp_M_isTwo σ a1))] σ post
  obtain ⟨w1, e2⟩ : ∃ w : Int32, w = bi ((fp_M_isTwo σ a1) ∧ (fp_M_in σ (Int32.toInt64 a2) (0 : Int64) (999 : Int64))) := ⟨_, rfl⟩
  have J1 : w1 = 1 → Ev none (d + 2) m_M_set 22 [some (vR 11 0), some (vI a1), some (vI a2), none] [] σ post := by
    intro e21
    replace K := K.1 (bi_1.mp ((e2.symm).trans e21))
    refine ev_aload_n d_M_set_22 rfl rfl ?_
    refine ev_getR gf_M_46 rfl (by decide) d_M_set_23 ?_
    refine ev_iload_n d_M_set_26 rfl rfl ?_
    obtain ⟨q3, K⟩ := K
    refine ev_iald rfl (by decide) (by decide) q3 d_M_set_27 ?_
    refine ev_istore_n (L' := [some (vR 11 0), some (vI a1), some (vI a2), some (vI (σ.1 54 0 (a1.toNatClampNeg)))]) d_M_set_28 rfl (by decide) rfl ?_
    refine ev_aload_n d_M_set_29 rfl rfl ?_
    refine ev_getR gf_M_46 rfl (by decide) d_M_set_30 ?_
    refine ev_iload_n d_M_set_33 rfl rfl ?_
    refine ev_iload_n d_M_set_34 rfl rfl ?_
    obtain ⟨q4, K⟩ := K
    refine ev_iast rfl (by decide) (by decide) q4 d_M_set_35 ?_
    refine ev_iload_n d_M_set_36 rfl rfl ?_
    exact ev_ret (r := some (vI (σ.1 54 0 (a1.toNatClampNeg)))) d_M_set_37 rfl rfl K
  have J0 : w1 = 0 → Ev none (d + 2) m_M_set 19 [some (vR 11 0), some (vI a1), some (vI a2), none] [] σ post := by
    intro e20
    replace K := K.2 (bi_0.mp ((e2.symm).trans e20))
    refine ev_bipush (v := -2) d_M_set_19 (by decide) ?_
    exact ev_ret (r := some (vI (-2 : Int32))) d_M_set_21 rfl rfl K
  clear K
  refine ev_ifb_eq (tgt := 19) d_M_set_4 rfl (fun h5 => ?_) (fun h5 => ?_)
  · rw [b3f h5] at e2
    exact J0 e2
  · rw [b3t h5] at e2
    refine ev_iload_n d_M_set_7 rfl rfl ?_
    refine ev_i2l d_M_set_8 ?_
    refine ev_lconst (v := 0) d_M_set_9 (by decide) ?_
    refine ev_ldc2 d_M_set_10 cn_M_167 ?_
    refine ev_callS (as := [vJ (Int32.toInt64 a2), vJ (0 : Int64), vJ (999 : Int64)]) (st := []) g_M_in ml_M_76 d_M_set_13 rfl rfl (Nat.le_of_ble_eq_true rfl) rfl (Nat.le_of_ble_eq_true rfl) ?_
    refine f_M_in  ?_
    show Ev none (d + 2) m_M_set 16 [some (vR 11 0), some (vI a1), some (vI a2), none] [vI (bi (fp_M_in σ (Int32.toInt64 a2) (0 : Int64) (999 : Int64)))] σ post
    refine ev_ifb_ne (tgt := 22) d_M_set_16 rfl (fun h6 => ?_) (fun h6 => ?_)
    · rw [bi_t h6] at e2
      exact J1 e2
    · rw [bi_f h6] at e2
      exact J0 e2
set_option maxRecDepth 4000 in
theorem sg_M_sheet_0 {d : Nat} {σ : ST} {a1 : Int32} {a2 : Int32} {a3 : Int32} {post : Option AV → ST → Prop} (K : ((fp_M_isSheet σ a1) → (((fp_M_in σ (Int32.toInt64 a2) (0 : Int64) (2 : Int64)) → (((a3 ≤ (60 : Int32)) → (((0 ≤ a3) → ((vp_in a1 4) ∧ ((vp_in a1 4) ∧ (Ev none (d + 2) m_M_sheet 55 [some (vR 11 0), some (vI a1), none, some (vI a3), some (vI (0 : Int32))] [] (setI (setI σ 42 0 (a1.toNatClampNeg) a2) 43 0 (a1.toNatClampNeg) a3) post)))) ∧ (¬ (0 ≤ a3) → (Ev none (d + 1) m_M_met 0 [some (vR 11 0), some (vI (5 : Int32))] [] σ (fun r s7 => ∃ z8 : Int32, r = some (vI z8) ∧ (post (some (vI z8)) s7)))))) ∧ (¬ (a3 ≤ (60 : Int32)) → (post (some (vI (-2 : Int32))) σ)))) ∧ (¬ (fp_M_in σ (Int32.toInt64 a2) (0 : Int64) (2 : Int64)) → (post (some (vI (-2 : Int32))) σ)))) ∧ (¬ (fp_M_isSheet σ a1) → (post (some (vI (-2 : Int32))) σ))) : Ev none (d + 2) m_M_sheet 0 [some (vR 11 0), some (vI a1), some (vI a2), some (vI a3), none] [] σ post := by
  refine ev_iload_n d_M_sheet_0 rfl rfl ?_
  refine ev_callS (as := [vI a1]) (st := []) g_M_isSheet ml_M_86 d_M_sheet_1 rfl rfl (Nat.le_of_ble_eq_true rfl) rfl (Nat.le_of_ble_eq_true rfl) ?_
  refine f_M_isSheet  ?_
  show Ev none (d + 2) m_M_sheet 4 [some (vR 11 0), some (vI a1), some (vI a2), some (vI a3), none] [vI (bi (fp_M_isSheet σ a1))] σ post
  refine ev_ifb_eq (tgt := 25) d_M_sheet_4 rfl (fun h1 => ?_) (fun h1 => ?_)
  · replace K := K.2 h1
    refine ev_bipush (v := -2) d_M_sheet_25 (by decide) ?_
    exact ev_ret (r := some (vI (-2 : Int32))) d_M_sheet_27 rfl rfl K
  · replace K := K.1 h1
    refine ev_iload_n d_M_sheet_7 rfl rfl ?_
    refine ev_i2l d_M_sheet_8 ?_
    refine ev_lconst (v := 0) d_M_sheet_9 (by decide) ?_
    refine ev_ldc2 d_M_sheet_10 cn_M_90 ?_
    refine ev_callS (as := [vJ (Int32.toInt64 a2), vJ (0 : Int64), vJ (2 : Int64)]) (st := []) g_M_in ml_M_76 d_M_sheet_13 rfl rfl (Nat.le_of_ble_eq_true rfl) rfl (Nat.le_of_ble_eq_true rfl) ?_
    refine f_M_in  ?_
    show Ev none (d + 2) m_M_sheet 16 [some (vR 11 0), some (vI a1), some (vI a2), some (vI a3), none] [vI (bi (fp_M_in σ (Int32.toInt64 a2) (0 : Int64) (2 : Int64)))] σ post
    refine ev_ifb_eq (tgt := 25) d_M_sheet_16 rfl (fun h2 => ?_) (fun h2 => ?_)
    · replace K := K.2 h2
      refine ev_bipush (v := -2) d_M_sheet_25 (by decide) ?_
      exact ev_ret (r := some (vI (-2 : Int32))) d_M_sheet_27 rfl rfl K
    · replace K := K.1 h2
      refine ev_iload_n d_M_sheet_19 rfl rfl ?_
      refine ev_bipush (v := 60) d_M_sheet_20 (by decide) ?_
      refine ev_icmp_le (tgt := 28) d_M_sheet_22 rfl (fun h3 => ?_) (fun h3 => ?_)
      · replace K := K.1 h3
        refine ev_iload_n d_M_sheet_28 rfl rfl ?_
        refine ev_if_ge (tgt := 38) d_M_sheet_29 rfl (fun h4 => ?_) (fun h4 => ?_)
        · replace K := K.1 h4
          refine ev_aload_n d_M_sheet_38 rfl rfl ?_
          refine ev_getR gf_M_7 rfl (by decide) d_M_sheet_39 ?_
          refine ev_iload_n d_M_sheet_42 rfl rfl ?_
          refine ev_iload_n d_M_sheet_43 rfl rfl ?_
          obtain ⟨q5, K⟩ := K
          refine ev_iast rfl (by decide) (by decide) q5 d_M_sheet_44 ?_
          refine ev_aload_n d_M_sheet_45 rfl rfl ?_
          refine ev_getR gf_M_13 rfl (by decide) d_M_sheet_46 ?_
          refine ev_iload_n d_M_sheet_49 rfl rfl ?_
          refine ev_iload_n d_M_sheet_50 rfl rfl ?_
          obtain ⟨q6, K⟩ := K
          refine ev_iast rfl (by decide) (by decide) q6 d_M_sheet_51 ?_
          refine ev_iconst (v := 0) d_M_sheet_52 (by decide) ?_
          refine ev_istore (L' := [some (vR 11 0), some (vI a1), some (vI a2), some (vI a3), some (vI (0 : Int32))]) d_M_sheet_53 (by decide) rfl ?_
          exact Ev.wk (lsub_kp (lsub_kp (lsub_sk (lsub_kp (lsub_kp (lsub_nil)))))) K
        · replace K := K.2 h4
          refine ev_aload_n d_M_sheet_32 rfl rfl ?_
          refine ev_iconst (v := 5) d_M_sheet_33 (by decide) ?_
          refine ev_callV (as := [vI (5 : Int32)]) (st := []) (k := 11) (i := 0) g_M_met ml_M_92 rfl rfl (by decide) (by decide) d_M_sheet_34 rfl rfl (Nat.le_of_ble_eq_true rfl) rfl (Nat.le_of_ble_eq_true rfl) ?_
          refine Ev.mono K ?_
          rintro _ s7 ⟨z8, rfl, K⟩
          show Ev none (d + 2) m_M_sheet 37 [some (vR 11 0), some (vI a1), some (vI a2), some (vI a3), none] [vI z8] s7 post
          exact ev_ret (r := some (vI z8)) d_M_sheet_37 rfl rfl K
      · replace K := K.2 h3
        refine ev_bipush (v := -2) d_M_sheet_25 (by decide) ?_
        exact ev_ret (r := some (vI (-2 : Int32))) d_M_sheet_27 rfl rfl K
set_option maxRecDepth 4000 in
theorem sg_M_sheet_55 {d : Nat} {σ : ST} {a1 : Int32} {a3 : Int32} {a4 : Int32} {post : Option AV → ST → Prop} (K : ((a3 ≤ a4) → (post (some (vI a3)) σ)) ∧ (¬ (a3 ≤ a4) → ((vp_in (((60 : Int32) * a1) + a4) 240) ∧ (Ev none (d + 2) m_M_sheet 55 [some (vR 11 0), some (vI a1), none, some (vI a3), some (vI (a4 + (1 : Int32)))] [] (setI σ 44 0 ((((60 : Int32) * a1) + a4).toNatClampNeg) (0 : Int32)) post)))) : Ev none (d + 2) m_M_sheet 55 [some (vR 11 0), some (vI a1), none, some (vI a3), some (vI a4)] [] σ post := by
  refine ev_iload d_M_sheet_55 rfl ?_
  refine ev_iload_n d_M_sheet_57 rfl rfl ?_
  refine ev_icmp_ge (tgt := 80) d_M_sheet_58 rfl (fun h1 => ?_) (fun h1 => ?_)
  · replace K := K.1 h1
    refine ev_iload_n d_M_sheet_80 rfl rfl ?_
    exact ev_ret (r := some (vI a3)) d_M_sheet_81 rfl rfl K
  · replace K := K.2 h1
    refine ev_aload_n d_M_sheet_61 rfl rfl ?_
    refine ev_getR gf_M_16 rfl (by decide) d_M_sheet_62 ?_
    refine ev_bipush (v := 60) d_M_sheet_65 (by decide) ?_
    refine ev_iload_n d_M_sheet_67 rfl rfl ?_
    refine ev_imul d_M_sheet_68 ?_
    refine ev_iload d_M_sheet_69 rfl ?_
    refine ev_iadd d_M_sheet_71 ?_
    refine ev_iconst (v := 0) d_M_sheet_72 (by decide) ?_
    obtain ⟨q2, K⟩ := K
    refine ev_iast rfl (by decide) (by decide) q2 d_M_sheet_73 ?_
    refine ev_iinc (v := a4 + (1 : Int32)) (L' := [some (vR 11 0), some (vI a1), none, some (vI a3), some (vI (a4 + (1 : Int32)))]) d_M_sheet_74 rfl (congrArg (a4 + ·) (by decide)) (by decide) rfl ?_
    refine ev_goto (tgt := 55) d_M_sheet_77 rfl ?_
    exact K
set_option maxRecDepth 4000 in
theorem sg_M_skip_0 {d : Nat} {σ : ST} {a1 : Int32} {a2 : Int32} {post : Option AV → ST → Prop} (K : (((fp_M_isAnyChapter σ a1) ∧ (fp_M_isTwo σ a2)) → (post (some (vI ((isr (σ.1 11 0 11) a1) &&& (1 : Int32)))) (setI σ 11 0 11 (((σ.1 11 0 11) &&& ((isl (1 : Int32) a1) ^^^ (-1 : Int32))) ||| (isl a2 a1))))) ∧ (¬ ((fp_M_isAnyChapter σ a1) ∧ (fp_M_isTwo σ a2)) → (post (some (vI (-2 : Int32))) σ))) : Ev none (d + 2) m_M_skip 0 [some (vR 11 0), some (vI a1), some (vI a2), none] [] σ post := by
  refine ev_iload_n d_M_skip_0 rfl rfl ?_
  refine ev_callS (as := [vI a1]) (st := []) g_M_isAnyChapter ml_M_157 d_M_skip_1 rfl rfl (Nat.le_of_ble_eq_true rfl) rfl (Nat.le_of_ble_eq_true rfl) ?_
  refine f_M_isAnyChapter  ?_
  show Ev none (d + 2) m_M_skip 4 [some (vR 11 0), some (vI a1), some (vI a2), none] [vI (bi (fp_M_isAnyChapter σ a1))] σ post
  obtain ⟨w1, e2⟩ : ∃ w : Int32, w = bi ((fp_M_isAnyChapter σ a1) ∧ (fp_M_isTwo σ a2)) := ⟨_, rfl⟩
  have J1 : w1 = 1 → Ev none (d + 2) m_M_skip 17 [some (vR 11 0), some (vI a1), some (vI a2), none] [] σ post := by
    intro e21
    replace K := K.1 (bi_1.mp ((e2.symm).trans e21))
    refine ev_aload_n d_M_skip_17 rfl rfl ?_
    refine ev_getI gf_M_140 rfl (by decide) d_M_skip_18 ?_
    refine ev_iload_n d_M_skip_21 rfl rfl ?_
    refine ev_ishr d_M_skip_22 ?_
    refine ev_iconst (v := 1) d_M_skip_23 (by decide) ?_
    refine ev_iand d_M_skip_24 ?_
    refine ev_istore_n (L' := [some (vR 11 0), some (vI a1), some (vI a2), some (vI ((isr (σ.1 11 0 11) a1) &&& (1 : Int32)))]) d_M_skip_25 rfl (by decide) rfl ?_
    refine ev_aload_n d_M_skip_26 rfl rfl ?_
    refine ev_aload_n d_M_skip_27 rfl rfl ?_
    refine ev_getI gf_M_140 rfl (by decide) d_M_skip_28 ?_
    refine ev_iconst (v := 1) d_M_skip_31 (by decide) ?_
    refine ev_iload_n d_M_skip_32 rfl rfl ?_
    refine ev_ishl d_M_skip_33 ?_
    refine ev_iconst (v := -1) d_M_skip_34 (by decide) ?_
    refine ev_ixor d_M_skip_35 ?_
    refine ev_iand d_M_skip_36 ?_
    refine ev_iload_n d_M_skip_37 rfl rfl ?_
    refine ev_iload_n d_M_skip_38 rfl rfl ?_
    refine ev_ishl d_M_skip_39 ?_
    refine ev_ior d_M_skip_40 ?_
    refine ev_putI gp_M_140 rfl (by decide) d_M_skip_41 ?_
    refine ev_iload_n d_M_skip_44 rfl rfl ?_
    exact ev_ret (r := some (vI ((isr (σ.1 11 0 11) a1) &&& (1 : Int32)))) d_M_skip_45 rfl rfl K
  have J0 : w1 = 0 → Ev none (d + 2) m_M_skip 14 [some (vR 11 0), some (vI a1), some (vI a2), none] [] σ post := by
    intro e20
    replace K := K.2 (bi_0.mp ((e2.symm).trans e20))
    refine ev_bipush (v := -2) d_M_skip_14 (by decide) ?_
    exact ev_ret (r := some (vI (-2 : Int32))) d_M_skip_16 rfl rfl K
  clear K
  refine ev_ifb_eq (tgt := 14) d_M_skip_4 rfl (fun h3 => ?_) (fun h3 => ?_)
  · rw [b3f h3] at e2
    exact J0 e2
  · rw [b3t h3] at e2
    refine ev_iload_n d_M_skip_7 rfl rfl ?_
    refine ev_callS (as := [vI a2]) (st := []) g_M_isTwo ml_M_160 d_M_skip_8 rfl rfl (Nat.le_of_ble_eq_true rfl) rfl (Nat.le_of_ble_eq_true rfl) ?_
    refine f_M_isTwo  ?_
    show Ev none (d + 2) m_M_skip 11 [some (vR 11 0), some (vI a1), some (vI a2), none] [vI (bi (fp_M_isTwo σ a2))] σ post
    refine ev_ifb_ne (tgt := 17) d_M_skip_11 rfl (fun h4 => ?_) (fun h4 => ?_)
    · rw [bi_t h4] at e2
      exact J1 e2
    · rw [bi_f h4] at e2
      exact J0 e2
set_option maxRecDepth 4000 in
theorem sg_M_turn_0 {d : Nat} {σ : ST} {a1 : Int32} {a2 : Int32} {a3 : Int32} {post : Option AV → ST → Prop} (K : ((fp_M_isAnyChapter σ a1) → (((fp_M_isSome σ a2) → (((fp_M_in σ (Int32.toInt64 a3) (0 : Int64) (999 : Int64)) → ((((σ.1 11 0 29) = (8 : Int32)) → (post (some (vI (-4 : Int32))) σ)) ∧ (¬ ((σ.1 11 0 29) = (8 : Int32)) → ((vp_in ((3 : Int32) * (σ.1 11 0 29)) 24) ∧ ((vp_in (((3 : Int32) * ((setI σ 60 0 (((3 : Int32) * (σ.1 11 0 29)).toNatClampNeg) a1).1 11 0 29)) + (1 : Int32)) 24) ∧ ((vp_in (((3 : Int32) * ((setI (setI σ 60 0 (((3 : Int32) * (σ.1 11 0 29)).toNatClampNeg) a1) 60 0 ((((3 : Int32) * ((setI σ 60 0 (((3 : Int32) * (σ.1 11 0 29)).toNatClampNeg) a1).1 11 0 29)) + (1 : Int32)).toNatClampNeg) a2).1 11 0 29)) + (2 : Int32)) 24) ∧ (post (some (vI ((setI (setI (setI (setI σ 60 0 (((3 : Int32) * (σ.1 11 0 29)).toNatClampNeg) a1) 60 0 ((((3 : Int32) * ((setI σ 60 0 (((3 : Int32) * (σ.1 11 0 29)).toNatClampNeg) a1).1 11 0 29)) + (1 : Int32)).toNatClampNeg) a2) 60 0 ((((3 : Int32) * ((setI (setI σ 60 0 (((3 : Int32) * (σ.1 11 0 29)).toNatClampNeg) a1) 60 0 ((((3 : Int32) * ((setI σ 60 0 (((3 : Int32) * (σ.1 11 0 29)).toNatClampNeg) a1).1 11 0 29)) + (1 : Int32)).toNatClampNeg) a2).1 11 0 29)) + (2 : Int32)).toNatClampNeg) a3) 11 0 29 (((setI (setI (setI σ 60 0 (((3 : Int32) * (σ.1 11 0 29)).toNatClampNeg) a1) 60 0 ((((3 : Int32) * ((setI σ 60 0 (((3 : Int32) * (σ.1 11 0 29)).toNatClampNeg) a1).1 11 0 29)) + (1 : Int32)).toNatClampNeg) a2) 60 0 ((((3 : Int32) * ((setI (setI σ 60 0 (((3 : Int32) * (σ.1 11 0 29)).toNatClampNeg) a1) 60 0 ((((3 : Int32) * ((setI σ 60 0 (((3 : Int32) * (σ.1 11 0 29)).toNatClampNeg) a1).1 11 0 29)) + (1 : Int32)).toNatClampNeg) a2).1 11 0 29)) + (2 : Int32)).toNatClampNeg) a3).1 11 0 29) + (1 : Int32))).1 11 0 29))) (setI (setI (setI (setI σ 60 0 (((3 : Int32) * (σ.1 11 0 29)).toNatClampNeg) a1) 60 0 ((((3 : Int32) * ((setI σ 60 0 (((3 : Int32) * (σ.1 11 0 29)).toNatClampNeg) a1).1 11 0 29)) + (1 : Int32)).toNatClampNeg) a2) 60 0 ((((3 : Int32) * ((setI (setI σ 60 0 (((3 : Int32) * (σ.1 11 0 29)).toNatClampNeg) a1) 60 0 ((((3 : Int32) * ((setI σ 60 0 (((3 : Int32) * (σ.1 11 0 29)).toNatClampNeg) a1).1 11 0 29)) + (1 : Int32)).toNatClampNeg) a2).1 11 0 29)) + (2 : Int32)).toNatClampNeg) a3) 11 0 29 (((setI (setI (setI σ 60 0 (((3 : Int32) * (σ.1 11 0 29)).toNatClampNeg) a1) 60 0 ((((3 : Int32) * ((setI σ 60 0 (((3 : Int32) * (σ.1 11 0 29)).toNatClampNeg) a1).1 11 0 29)) + (1 : Int32)).toNatClampNeg) a2) 60 0 ((((3 : Int32) * ((setI (setI σ 60 0 (((3 : Int32) * (σ.1 11 0 29)).toNatClampNeg) a1) 60 0 ((((3 : Int32) * ((setI σ 60 0 (((3 : Int32) * (σ.1 11 0 29)).toNatClampNeg) a1).1 11 0 29)) + (1 : Int32)).toNatClampNeg) a2).1 11 0 29)) + (2 : Int32)).toNatClampNeg) a3).1 11 0 29) + (1 : Int32)))))))))) ∧ (¬ (fp_M_in σ (Int32.toInt64 a3) (0 : Int64) (999 : Int64)) → (post (some (vI (-2 : Int32))) σ)))) ∧ (¬ (fp_M_isSome σ a2) → (post (some (vI (-2 : Int32))) σ)))) ∧ (¬ (fp_M_isAnyChapter σ a1) → (post (some (vI (-2 : Int32))) σ))) : Ev none (d + 2) m_M_turn 0 [some (vR 11 0), some (vI a1), some (vI a2), some (vI a3)] [] σ post := by
  refine ev_iload_n d_M_turn_0 rfl rfl ?_
  refine ev_callS (as := [vI a1]) (st := []) g_M_isAnyChapter ml_M_157 d_M_turn_1 rfl rfl (Nat.le_of_ble_eq_true rfl) rfl (Nat.le_of_ble_eq_true rfl) ?_
  refine f_M_isAnyChapter  ?_
  show Ev none (d + 2) m_M_turn 4 [some (vR 11 0), some (vI a1), some (vI a2), some (vI a3)] [vI (bi (fp_M_isAnyChapter σ a1))] σ post
  refine ev_ifb_eq (tgt := 26) d_M_turn_4 rfl (fun h1 => ?_) (fun h1 => ?_)
  · replace K := K.2 h1
    refine ev_bipush (v := -2) d_M_turn_26 (by decide) ?_
    exact ev_ret (r := some (vI (-2 : Int32))) d_M_turn_28 rfl rfl K
  · replace K := K.1 h1
    refine ev_iload_n d_M_turn_7 rfl rfl ?_
    refine ev_callS (as := [vI a2]) (st := []) g_M_isSome ml_M_198 d_M_turn_8 rfl rfl (Nat.le_of_ble_eq_true rfl) rfl (Nat.le_of_ble_eq_true rfl) ?_
    refine f_M_isSome  ?_
    show Ev none (d + 2) m_M_turn 11 [some (vR 11 0), some (vI a1), some (vI a2), some (vI a3)] [vI (bi (fp_M_isSome σ a2))] σ post
    refine ev_ifb_eq (tgt := 26) d_M_turn_11 rfl (fun h2 => ?_) (fun h2 => ?_)
    · replace K := K.2 h2
      refine ev_bipush (v := -2) d_M_turn_26 (by decide) ?_
      exact ev_ret (r := some (vI (-2 : Int32))) d_M_turn_28 rfl rfl K
    · replace K := K.1 h2
      refine ev_iload_n d_M_turn_14 rfl rfl ?_
      refine ev_i2l d_M_turn_15 ?_
      refine ev_lconst (v := 0) d_M_turn_16 (by decide) ?_
      refine ev_ldc2 d_M_turn_17 cn_M_167 ?_
      refine ev_callS (as := [vJ (Int32.toInt64 a3), vJ (0 : Int64), vJ (999 : Int64)]) (st := []) g_M_in ml_M_76 d_M_turn_20 rfl rfl (Nat.le_of_ble_eq_true rfl) rfl (Nat.le_of_ble_eq_true rfl) ?_
      refine f_M_in  ?_
      show Ev none (d + 2) m_M_turn 23 [some (vR 11 0), some (vI a1), some (vI a2), some (vI a3)] [vI (bi (fp_M_in σ (Int32.toInt64 a3) (0 : Int64) (999 : Int64)))] σ post
      refine ev_ifb_ne (tgt := 29) d_M_turn_23 rfl (fun h3 => ?_) (fun h3 => ?_)
      · replace K := K.1 h3
        refine ev_aload_n d_M_turn_29 rfl rfl ?_
        refine ev_getI gf_M_261 rfl (by decide) d_M_turn_30 ?_
        refine ev_bipush (v := 8) d_M_turn_33 (by decide) ?_
        refine ev_icmp_ne (tgt := 41) d_M_turn_35 rfl (fun h4 => ?_) (fun h4 => ?_)
        · replace K := K.2 h4
          refine ev_aload_n d_M_turn_41 rfl rfl ?_
          refine ev_getR gf_M_64 rfl (by decide) d_M_turn_42 ?_
          refine ev_iconst (v := 3) d_M_turn_45 (by decide) ?_
          refine ev_aload_n d_M_turn_46 rfl rfl ?_
          refine ev_getI gf_M_261 rfl (by decide) d_M_turn_47 ?_
          refine ev_imul d_M_turn_50 ?_
          refine ev_iload_n d_M_turn_51 rfl rfl ?_
          obtain ⟨q5, K⟩ := K
          refine ev_iast rfl (by decide) (by decide) q5 d_M_turn_52 ?_
          refine ev_aload_n d_M_turn_53 rfl rfl ?_
          refine ev_getR gf_M_64 rfl (by decide) d_M_turn_54 ?_
          refine ev_iconst (v := 3) d_M_turn_57 (by decide) ?_
          refine ev_aload_n d_M_turn_58 rfl rfl ?_
          refine ev_getI gf_M_261 rfl (by decide) d_M_turn_59 ?_
          refine ev_imul d_M_turn_62 ?_
          refine ev_iconst (v := 1) d_M_turn_63 (by decide) ?_
          refine ev_iadd d_M_turn_64 ?_
          refine ev_iload_n d_M_turn_65 rfl rfl ?_
          obtain ⟨q6, K⟩ := K
          refine ev_iast rfl (by decide) (by decide) q6 d_M_turn_66 ?_
          refine ev_aload_n d_M_turn_67 rfl rfl ?_
          refine ev_getR gf_M_64 rfl (by decide) d_M_turn_68 ?_
          refine ev_iconst (v := 3) d_M_turn_71 (by decide) ?_
          refine ev_aload_n d_M_turn_72 rfl rfl ?_
          refine ev_getI gf_M_261 rfl (by decide) d_M_turn_73 ?_
          refine ev_imul d_M_turn_76 ?_
          refine ev_iconst (v := 2) d_M_turn_77 (by decide) ?_
          refine ev_iadd d_M_turn_78 ?_
          refine ev_iload_n d_M_turn_79 rfl rfl ?_
          obtain ⟨q7, K⟩ := K
          refine ev_iast rfl (by decide) (by decide) q7 d_M_turn_80 ?_
          refine ev_aload_n d_M_turn_81 rfl rfl ?_
          refine ev_dup d_M_turn_82 rfl ?_
          refine ev_getI gf_M_261 rfl (by decide) d_M_turn_83 ?_
          refine ev_iconst (v := 1) d_M_turn_86 (by decide) ?_
          refine ev_iadd d_M_turn_87 ?_
          refine ev_putI gp_M_261 rfl (by decide) d_M_turn_88 ?_
          refine ev_aload_n d_M_turn_91 rfl rfl ?_
          refine ev_getI gf_M_261 rfl (by decide) d_M_turn_92 ?_
          exact ev_ret (r := some (vI ((setI (setI (setI (setI σ 60 0 (((3 : Int32) * (σ.1 11 0 29)).toNatClampNeg) a1) 60 0 ((((3 : Int32) * ((setI σ 60 0 (((3 : Int32) * (σ.1 11 0 29)).toNatClampNeg) a1).1 11 0 29)) + (1 : Int32)).toNatClampNeg) a2) 60 0 ((((3 : Int32) * ((setI (setI σ 60 0 (((3 : Int32) * (σ.1 11 0 29)).toNatClampNeg) a1) 60 0 ((((3 : Int32) * ((setI σ 60 0 (((3 : Int32) * (σ.1 11 0 29)).toNatClampNeg) a1).1 11 0 29)) + (1 : Int32)).toNatClampNeg) a2).1 11 0 29)) + (2 : Int32)).toNatClampNeg) a3) 11 0 29 (((setI (setI (setI σ 60 0 (((3 : Int32) * (σ.1 11 0 29)).toNatClampNeg) a1) 60 0 ((((3 : Int32) * ((setI σ 60 0 (((3 : Int32) * (σ.1 11 0 29)).toNatClampNeg) a1).1 11 0 29)) + (1 : Int32)).toNatClampNeg) a2) 60 0 ((((3 : Int32) * ((setI (setI σ 60 0 (((3 : Int32) * (σ.1 11 0 29)).toNatClampNeg) a1) 60 0 ((((3 : Int32) * ((setI σ 60 0 (((3 : Int32) * (σ.1 11 0 29)).toNatClampNeg) a1).1 11 0 29)) + (1 : Int32)).toNatClampNeg) a2).1 11 0 29)) + (2 : Int32)).toNatClampNeg) a3).1 11 0 29) + (1 : Int32))).1 11 0 29))) d_M_turn_95 rfl rfl K
        · replace K := K.1 h4
          refine ev_bipush (v := -4) d_M_turn_38 (by decide) ?_
          exact ev_ret (r := some (vI (-4 : Int32))) d_M_turn_40 rfl rfl K
      · replace K := K.2 h3
        refine ev_bipush (v := -2) d_M_turn_26 (by decide) ?_
        exact ev_ret (r := some (vI (-2 : Int32))) d_M_turn_28 rfl rfl K
set_option maxRecDepth 4000 in
theorem sg_M_apart_0 {d : Nat} {σ : ST} {a1 : Int32} {a2 : Int32} {post : Option AV → ST → Prop} (K : Ev none (d + 3) m_M_apart 5 [some (vR 11 0), some (vI a1), some (vI a2), some (vI (0 : Int32)), some (vI (0 : Int32))] [] σ post) : Ev none (d + 3) m_M_apart 0 [some (vR 11 0), some (vI a1), some (vI a2), none, none] [] σ post := by
  refine ev_iconst (v := 0) d_M_apart_0 (by decide) ?_
  refine ev_istore_n (L' := [some (vR 11 0), some (vI a1), some (vI a2), some (vI (0 : Int32)), none]) d_M_apart_1 rfl (by decide) rfl ?_
  refine ev_iconst (v := 0) d_M_apart_2 (by decide) ?_
  refine ev_istore (L' := [some (vR 11 0), some (vI a1), some (vI a2), some (vI (0 : Int32)), some (vI (0 : Int32))]) d_M_apart_3 (by decide) rfl ?_
  exact K
set_option maxRecDepth 4000 in
theorem sg_M_apart_5 {d : Nat} {σ : ST} {a1 : Int32} {a2 : Int32} {a3 : Int32} {a4 : Int32} {post : Option AV → ST → Prop} (K : (((σ.1 11 0 8) ≤ a4) → (post (some (vI a3)) σ)) ∧ (¬ ((σ.1 11 0 8) ≤ a4) → ((((fp_M_isRead σ a4) → ((fs_M_timeOf σ a1 a4) ∧ (fs_M_timeOf σ a2 a4))) ∧ (¬ (fp_M_isRead σ a4) → True)) ∧ (∀ z4 : Int32, z4 = (if fp_M_isRead σ a4 then (fn_M_amount σ ((fn_M_timeOf σ a1 a4) - (fn_M_timeOf σ a2 a4))) else (0 : Int32)) → (Ev none (d + 3) m_M_apart 5 [some (vR 11 0), some (vI a1), some (vI a2), some (vI (a3 + z4)), some (vI (a4 + (1 : Int32)))] [] σ post))))) : Ev none (d + 3) m_M_apart 5 [some (vR 11 0), some (vI a1), some (vI a2), some (vI a3), some (vI a4)] [] σ post := by
  refine ev_iload d_M_apart_5 rfl ?_
  refine ev_aload_n d_M_apart_7 rfl rfl ?_
  refine ev_getI gf_M_113 rfl (by decide) d_M_apart_8 ?_
  refine ev_icmp_ge (tgt := 54) d_M_apart_11 rfl (fun h1 => ?_) (fun h1 => ?_)
  · replace K := K.1 h1
    refine ev_iload_n d_M_apart_54 rfl rfl ?_
    exact ev_ret (r := some (vI a3)) d_M_apart_55 rfl rfl K
  · replace K := K.2 h1
    refine ev_iload_n d_M_apart_14 rfl rfl ?_
    refine ev_aload_n d_M_apart_15 rfl rfl ?_
    refine ev_iload d_M_apart_16 rfl ?_
    refine ev_callV (as := [vI a4]) (st := [vI a3]) (k := 11) (i := 0) g_M_isRead ml_M_188 rfl rfl (by decide) (by decide) d_M_apart_18 rfl rfl (Nat.le_of_ble_eq_true rfl) rfl (Nat.le_of_ble_eq_true rfl) ?_
    refine f_M_isRead  ?_
    show Ev none (d + 3) m_M_apart 21 [some (vR 11 0), some (vI a1), some (vI a2), some (vI a3), some (vI a4)] [vI (bi (fp_M_isRead σ a4)), vI a3] σ post
    obtain ⟨KS, K⟩ := K
    obtain ⟨z4, ez4⟩ : ∃ z : Int32, z = (if fp_M_isRead σ a4 then (fn_M_amount σ ((fn_M_timeOf σ a1 a4) - (fn_M_timeOf σ a2 a4))) else (0 : Int32)) := ⟨_, rfl⟩
    replace K := K z4 ez4
    have JJ : Ev none (d + 3) m_M_apart 46 [some (vR 11 0), some (vI a1), some (vI a2), none, some (vI a4)] [vI z4, vI a3] σ post := by
      refine ev_iadd d_M_apart_46 ?_
      refine ev_istore_n (L' := [some (vR 11 0), some (vI a1), some (vI a2), some (vI (a3 + z4)), some (vI a4)]) d_M_apart_47 rfl (by decide) rfl ?_
      refine ev_iinc (v := a4 + (1 : Int32)) (L' := [some (vR 11 0), some (vI a1), some (vI a2), some (vI (a3 + z4)), some (vI (a4 + (1 : Int32)))]) d_M_apart_48 rfl (congrArg (a4 + ·) (by decide)) (by decide) rfl ?_
      refine ev_goto (tgt := 5) d_M_apart_51 rfl ?_
      exact K
    clear K
    refine ev_ifb_eq (tgt := 45) d_M_apart_21 rfl (fun h5 => ?_) (fun h5 => ?_)
    · replace KS := KS.2 h5
      rw [if_neg h5] at ez4
      refine ev_iconst (v := 0) d_M_apart_45 (by decide) ?_
      subst ez4
      exact Ev.wk (lsub_kp (lsub_kp (lsub_kp (lsub_sk (lsub_kp (lsub_nil)))))) JJ
    · replace KS := KS.1 h5
      rw [if_pos h5] at ez4
      obtain ⟨q2, q3⟩ := KS
      refine ev_aload_n d_M_apart_24 rfl rfl ?_
      refine ev_iload_n d_M_apart_25 rfl rfl ?_
      refine ev_iload d_M_apart_26 rfl ?_
      refine ev_callV (as := [vI a1, vI a4]) (st := [vI a3]) (k := 11) (i := 0) g_M_timeOf ml_M_176 rfl rfl (by decide) (by decide) d_M_apart_28 rfl rfl (Nat.le_of_ble_eq_true rfl) rfl (Nat.le_of_ble_eq_true rfl) ?_
      refine f_M_timeOf q2 ?_
      show Ev none (d + 3) m_M_apart 31 [some (vR 11 0), some (vI a1), some (vI a2), some (vI a3), some (vI a4)] [vI (fn_M_timeOf σ a1 a4), vI a3] σ post
      refine ev_aload_n d_M_apart_31 rfl rfl ?_
      refine ev_iload_n d_M_apart_32 rfl rfl ?_
      refine ev_iload d_M_apart_33 rfl ?_
      refine ev_callV (as := [vI a2, vI a4]) (st := [vI (fn_M_timeOf σ a1 a4), vI a3]) (k := 11) (i := 0) g_M_timeOf ml_M_176 rfl rfl (by decide) (by decide) d_M_apart_35 rfl rfl (Nat.le_of_ble_eq_true rfl) rfl (Nat.le_of_ble_eq_true rfl) ?_
      refine f_M_timeOf q3 ?_
      show Ev none (d + 3) m_M_apart 38 [some (vR 11 0), some (vI a1), some (vI a2), some (vI a3), some (vI a4)] [vI (fn_M_timeOf σ a2 a4), vI (fn_M_timeOf σ a1 a4), vI a3] σ post
      refine ev_isub d_M_apart_38 ?_
      refine ev_callS (as := [vI ((fn_M_timeOf σ a1 a4) - (fn_M_timeOf σ a2 a4))]) (st := [vI a3]) g_M_amount ml_M_208 d_M_apart_39 rfl rfl (Nat.le_of_ble_eq_true rfl) rfl (Nat.le_of_ble_eq_true rfl) ?_
      refine f_M_amount  ?_
      show Ev none (d + 3) m_M_apart 42 [some (vR 11 0), some (vI a1), some (vI a2), some (vI a3), some (vI a4)] [vI (fn_M_amount σ ((fn_M_timeOf σ a1 a4) - (fn_M_timeOf σ a2 a4))), vI a3] σ post
      refine ev_goto (tgt := 46) d_M_apart_42 rfl ?_
      subst ez4
      exact Ev.wk (lsub_kp (lsub_kp (lsub_kp (lsub_sk (lsub_kp (lsub_nil)))))) JJ
set_option maxRecDepth 4000 in
theorem sg_M_count_0 {d : Nat} {σ : ST} {a1 : Int32} {post : Option AV → ST → Prop} (K : Ev none (d + 2) m_M_reads 0 [some (vR 11 0), none] [] σ (fun r s1 => ∃ z2 : Int32, r = some (vI z2) ∧ ((a1 = 0 → (post (some (vI (s1.1 11 0 8))) s1)) ∧ (¬ a1 = 0 → ((a1 = 1 → (post (some (vI (s1.1 11 0 6))) s1)) ∧ (¬ a1 = 1 → ((a1 = 2 → (Ev none (d + 3) m_M_count 72 [some (vR 11 0), none, some (vI (0 : Int32)), some (vI (0 : Int32))] [] s1 post)) ∧ (¬ a1 = 2 → ((a1 = 3 → (Ev none (d + 2) m_M_ones 0 [some (vI ((s1.1 11 0 11) &&& ((isl (1 : Int32) (s1.1 11 0 8)) - (1 : Int32)))), none, none] [] s1 (fun r s7 => ∃ z8 : Int32, r = some (vI z8) ∧ (post (some (vI z8)) s7)))) ∧ (¬ a1 = 3 → ((a1 = 4 → (Ev none (d + 3) m_M_count 116 [some (vR 11 0), none, some (vI (0 : Int32)), some (vI (0 : Int32))] [] s1 post)) ∧ (¬ a1 = 4 → ((a1 = 5 → (post (some (vI (s1.1 11 0 29))) s1)) ∧ (¬ a1 = 5 → ((a1 = 6 → ((vp_in (a1 - (6 : Int32)) 2) ∧ (post (some (vI (s1.1 54 0 ((a1 - (6 : Int32)).toNatClampNeg)))) s1))) ∧ (¬ a1 = 6 → ((a1 = 7 → ((vp_in (a1 - (6 : Int32)) 2) ∧ (post (some (vI (s1.1 54 0 ((a1 - (6 : Int32)).toNatClampNeg)))) s1))) ∧ (¬ a1 = 7 → ((a1 = 8 → (post (some (vI (s1.1 11 0 4))) s1)) ∧ (¬ a1 = 8 → (post (some (vI (-2 : Int32))) s1))))))))))))))))))))) : Ev none (d + 3) m_M_count 0 [some (vR 11 0), some (vI a1), none, none] [] σ post := by
  refine ev_iconst (v := 0) d_M_count_0 (by decide) ?_
  refine ev_istore_n (L' := [some (vR 11 0), some (vI a1), some (vI (0 : Int32)), none]) d_M_count_1 rfl (by decide) rfl ?_
  refine ev_aload_n d_M_count_2 rfl rfl ?_
  refine ev_callV (as := []) (st := []) (k := 11) (i := 0) g_M_reads ml_M_131 rfl rfl (by decide) (by decide) d_M_count_3 rfl rfl (Nat.le_of_ble_eq_true rfl) rfl (Nat.le_of_ble_eq_true rfl) ?_
  refine Ev.mono K ?_
  rintro _ s1 ⟨z2, rfl, K⟩
  show Ev none (d + 3) m_M_count 6 [some (vR 11 0), some (vI a1), some (vI (0 : Int32)), none] [vI z2] s1 post
  refine ev_pop d_M_count_6 rfl ?_
  refine ev_iload_n d_M_count_7 rfl rfl ?_
  by_cases h3 : a1 = 0
  · replace K := K.1 h3
    refine ev_tableIn (off := 52) (tgt := 60) d_M_count_8 (by rw [h3]; decide) (by rw [h3]; decide) (by rw [h3]; decide) rfl ?_
    refine ev_aload_n d_M_count_60 rfl rfl ?_
    refine ev_getI gf_M_113 rfl (by decide) d_M_count_61 ?_
    exact ev_ret (r := some (vI (s1.1 11 0 8))) d_M_count_64 rfl rfl K
  · replace K := K.2 h3
    by_cases h4 : a1 = 1
    · replace K := K.1 h4
      refine ev_tableIn (off := 57) (tgt := 65) d_M_count_8 (by rw [h4]; decide) (by rw [h4]; decide) (by rw [h4]; decide) rfl ?_
      refine ev_aload_n d_M_count_65 rfl rfl ?_
      refine ev_getI gf_M_107 rfl (by decide) d_M_count_66 ?_
      exact ev_ret (r := some (vI (s1.1 11 0 6))) d_M_count_69 rfl rfl K
    · replace K := K.2 h4
      by_cases h5 : a1 = 2
      · replace K := K.1 h5
        refine ev_tableIn (off := 62) (tgt := 70) d_M_count_8 (by rw [h5]; decide) (by rw [h5]; decide) (by rw [h5]; decide) rfl ?_
        refine ev_iconst (v := 0) d_M_count_70 (by decide) ?_
        refine ev_istore_n (L' := [some (vR 11 0), some (vI a1), some (vI (0 : Int32)), some (vI (0 : Int32))]) d_M_count_71 rfl (by decide) rfl ?_
        exact Ev.wk (lsub_kp (lsub_sk (lsub_kp (lsub_kp (lsub_nil))))) K
      · replace K := K.2 h5
        by_cases h6 : a1 = 3
        · replace K := K.1 h6
          refine ev_tableIn (off := 89) (tgt := 97) d_M_count_8 (by rw [h6]; decide) (by rw [h6]; decide) (by rw [h6]; decide) rfl ?_
          refine ev_aload_n d_M_count_97 rfl rfl ?_
          refine ev_getI gf_M_140 rfl (by decide) d_M_count_98 ?_
          refine ev_iconst (v := 1) d_M_count_101 (by decide) ?_
          refine ev_aload_n d_M_count_102 rfl rfl ?_
          refine ev_getI gf_M_113 rfl (by decide) d_M_count_103 ?_
          refine ev_ishl d_M_count_106 ?_
          refine ev_iconst (v := 1) d_M_count_107 (by decide) ?_
          refine ev_isub d_M_count_108 ?_
          refine ev_iand d_M_count_109 ?_
          refine ev_callS (as := [vI ((s1.1 11 0 11) &&& ((isl (1 : Int32) (s1.1 11 0 8)) - (1 : Int32)))]) (st := []) g_M_ones ml_M_246 d_M_count_110 rfl rfl (Nat.le_of_ble_eq_true rfl) rfl (Nat.le_of_ble_eq_true rfl) ?_
          refine Ev.mono K ?_
          rintro _ s7 ⟨z8, rfl, K⟩
          show Ev none (d + 3) m_M_count 113 [some (vR 11 0), some (vI a1), some (vI (0 : Int32)), none] [vI z8] s7 post
          exact ev_ret (r := some (vI z8)) d_M_count_113 rfl rfl K
        · replace K := K.2 h6
          by_cases h9 : a1 = 4
          · replace K := K.1 h9
            refine ev_tableIn (off := 106) (tgt := 114) d_M_count_8 (by rw [h9]; decide) (by rw [h9]; decide) (by rw [h9]; decide) rfl ?_
            refine ev_iconst (v := 0) d_M_count_114 (by decide) ?_
            refine ev_istore_n (L' := [some (vR 11 0), some (vI a1), some (vI (0 : Int32)), some (vI (0 : Int32))]) d_M_count_115 rfl (by decide) rfl ?_
            exact Ev.wk (lsub_kp (lsub_sk (lsub_kp (lsub_kp (lsub_nil))))) K
          · replace K := K.2 h9
            by_cases h10 : a1 = 5
            · replace K := K.1 h10
              refine ev_tableIn (off := 143) (tgt := 151) d_M_count_8 (by rw [h10]; decide) (by rw [h10]; decide) (by rw [h10]; decide) rfl ?_
              refine ev_aload_n d_M_count_151 rfl rfl ?_
              refine ev_getI gf_M_261 rfl (by decide) d_M_count_152 ?_
              exact ev_ret (r := some (vI (s1.1 11 0 29))) d_M_count_155 rfl rfl K
            · replace K := K.2 h10
              by_cases h11 : a1 = 6
              · replace K := K.1 h11
                refine ev_tableIn (off := 148) (tgt := 156) d_M_count_8 (by rw [h11]; decide) (by rw [h11]; decide) (by rw [h11]; decide) rfl ?_
                refine ev_aload_n d_M_count_156 rfl rfl ?_
                refine ev_getR gf_M_46 rfl (by decide) d_M_count_157 ?_
                refine ev_iload_n d_M_count_160 rfl rfl ?_
                refine ev_bipush (v := 6) d_M_count_161 (by decide) ?_
                refine ev_isub d_M_count_163 ?_
                obtain ⟨q12, K⟩ := K
                refine ev_iald rfl (by decide) (by decide) q12 d_M_count_164 ?_
                exact ev_ret (r := some (vI (s1.1 54 0 ((a1 - (6 : Int32)).toNatClampNeg)))) d_M_count_165 rfl rfl K
              · replace K := K.2 h11
                by_cases h13 : a1 = 7
                · replace K := K.1 h13
                  refine ev_tableIn (off := 148) (tgt := 156) d_M_count_8 (by rw [h13]; decide) (by rw [h13]; decide) (by rw [h13]; decide) rfl ?_
                  refine ev_aload_n d_M_count_156 rfl rfl ?_
                  refine ev_getR gf_M_46 rfl (by decide) d_M_count_157 ?_
                  refine ev_iload_n d_M_count_160 rfl rfl ?_
                  refine ev_bipush (v := 6) d_M_count_161 (by decide) ?_
                  refine ev_isub d_M_count_163 ?_
                  obtain ⟨q14, K⟩ := K
                  refine ev_iald rfl (by decide) (by decide) q14 d_M_count_164 ?_
                  exact ev_ret (r := some (vI (s1.1 54 0 ((a1 - (6 : Int32)).toNatClampNeg)))) d_M_count_165 rfl rfl K
                · replace K := K.2 h13
                  by_cases h15 : a1 = 8
                  · replace K := K.1 h15
                    refine ev_tableIn (off := 158) (tgt := 166) d_M_count_8 (by rw [h15]; decide) (by rw [h15]; decide) (by rw [h15]; decide) rfl ?_
                    refine ev_aload_n d_M_count_166 rfl rfl ?_
                    refine ev_getI gf_M_80 rfl (by decide) d_M_count_167 ?_
                    exact ev_ret (r := some (vI (s1.1 11 0 4))) d_M_count_170 rfl rfl K
                  · replace K := K.2 h15
                    refine ev_tableOut (tgt := 171) d_M_count_8 (by have u0 : ¬ Int32.toInt a1 = 0 := fun q => h3 (Int32.toInt_inj.mp q); have u1 : ¬ Int32.toInt a1 = 1 := fun q => h4 (Int32.toInt_inj.mp q); have u2 : ¬ Int32.toInt a1 = 2 := fun q => h5 (Int32.toInt_inj.mp q); have u3 : ¬ Int32.toInt a1 = 3 := fun q => h6 (Int32.toInt_inj.mp q); have u4 : ¬ Int32.toInt a1 = 4 := fun q => h9 (Int32.toInt_inj.mp q); have u5 : ¬ Int32.toInt a1 = 5 := fun q => h10 (Int32.toInt_inj.mp q); have u6 : ¬ Int32.toInt a1 = 6 := fun q => h11 (Int32.toInt_inj.mp q); have u7 : ¬ Int32.toInt a1 = 7 := fun q => h13 (Int32.toInt_inj.mp q); have u8 : ¬ Int32.toInt a1 = 8 := fun q => h15 (Int32.toInt_inj.mp q); omega) rfl ?_
                    refine ev_bipush (v := -2) d_M_count_171 (by decide) ?_
                    exact ev_ret (r := some (vI (-2 : Int32))) d_M_count_173 rfl rfl K
set_option maxRecDepth 4000 in
theorem sg_M_count_72 {d : Nat} {σ : ST} {a2 : Int32} {a3 : Int32} {post : Option AV → ST → Prop} (K : (((σ.1 11 0 8) ≤ a3) → (post (some (vI a2)) σ)) ∧ (¬ ((σ.1 11 0 8) ≤ a3) → ((vp_in a3 8) ∧ (Ev none (d + 3) m_M_count 72 [some (vR 11 0), none, some (vI (a2 + (σ.1 48 0 (a3.toNatClampNeg)))), some (vI (a3 + (1 : Int32)))] [] σ post)))) : Ev none (d + 3) m_M_count 72 [some (vR 11 0), none, some (vI a2), some (vI a3)] [] σ post := by
  refine ev_iload_n d_M_count_72 rfl rfl ?_
  refine ev_aload_n d_M_count_73 rfl rfl ?_
  refine ev_getI gf_M_113 rfl (by decide) d_M_count_74 ?_
  refine ev_icmp_ge (tgt := 95) d_M_count_77 rfl (fun h1 => ?_) (fun h1 => ?_)
  · replace K := K.1 h1
    refine ev_iload_n d_M_count_95 rfl rfl ?_
    exact ev_ret (r := some (vI a2)) d_M_count_96 rfl rfl K
  · replace K := K.2 h1
    refine ev_iload_n d_M_count_80 rfl rfl ?_
    refine ev_aload_n d_M_count_81 rfl rfl ?_
    refine ev_getR gf_M_28 rfl (by decide) d_M_count_82 ?_
    refine ev_iload_n d_M_count_85 rfl rfl ?_
    obtain ⟨q2, K⟩ := K
    refine ev_iald rfl (by decide) (by decide) q2 d_M_count_86 ?_
    refine ev_iadd d_M_count_87 ?_
    refine ev_istore_n (L' := [some (vR 11 0), none, some (vI (a2 + (σ.1 48 0 (a3.toNatClampNeg)))), some (vI a3)]) d_M_count_88 rfl (by decide) rfl ?_
    refine ev_iinc (v := a3 + (1 : Int32)) (L' := [some (vR 11 0), none, some (vI (a2 + (σ.1 48 0 (a3.toNatClampNeg)))), some (vI (a3 + (1 : Int32)))]) d_M_count_89 rfl (congrArg (a3 + ·) (by decide)) (by decide) rfl ?_
    refine ev_goto (tgt := 72) d_M_count_92 rfl ?_
    exact K
set_option maxRecDepth 4000 in
theorem sg_M_count_116 {d : Nat} {σ : ST} {a2 : Int32} {a3 : Int32} {post : Option AV → ST → Prop} (K : (((6 : Int32) ≤ a3) → (post (some (vI a2)) σ)) ∧ (¬ ((6 : Int32) ≤ a3) → ((vp_in a3 6) ∧ (Ev none (d + 2) m_M_ones 0 [some (vI ((σ.1 50 0 (a3.toNatClampNeg)) &&& ((isl (1 : Int32) (σ.1 11 0 8)) - (1 : Int32)))), none, none] [] σ (fun r s3 => ∃ z4 : Int32, r = some (vI z4) ∧ (Ev none (d + 3) m_M_count 116 [some (vR 11 0), none, some (vI (a2 + z4)), some (vI (a3 + (1 : Int32)))] [] s3 post)))))) : Ev none (d + 3) m_M_count 116 [some (vR 11 0), none, some (vI a2), some (vI a3)] [] σ post := by
  refine ev_iload_n d_M_count_116 rfl rfl ?_
  refine ev_bipush (v := 6) d_M_count_117 (by decide) ?_
  refine ev_icmp_ge (tgt := 149) d_M_count_119 rfl (fun h1 => ?_) (fun h1 => ?_)
  · replace K := K.1 h1
    refine ev_iload_n d_M_count_149 rfl rfl ?_
    exact ev_ret (r := some (vI a2)) d_M_count_150 rfl rfl K
  · replace K := K.2 h1
    refine ev_iload_n d_M_count_122 rfl rfl ?_
    refine ev_aload_n d_M_count_123 rfl rfl ?_
    refine ev_getR gf_M_34 rfl (by decide) d_M_count_124 ?_
    refine ev_iload_n d_M_count_127 rfl rfl ?_
    obtain ⟨q2, K⟩ := K
    refine ev_iald rfl (by decide) (by decide) q2 d_M_count_128 ?_
    refine ev_iconst (v := 1) d_M_count_129 (by decide) ?_
    refine ev_aload_n d_M_count_130 rfl rfl ?_
    refine ev_getI gf_M_113 rfl (by decide) d_M_count_131 ?_
    refine ev_ishl d_M_count_134 ?_
    refine ev_iconst (v := 1) d_M_count_135 (by decide) ?_
    refine ev_isub d_M_count_136 ?_
    refine ev_iand d_M_count_137 ?_
    refine ev_callS (as := [vI ((σ.1 50 0 (a3.toNatClampNeg)) &&& ((isl (1 : Int32) (σ.1 11 0 8)) - (1 : Int32)))]) (st := [vI a2]) g_M_ones ml_M_246 d_M_count_138 rfl rfl (Nat.le_of_ble_eq_true rfl) rfl (Nat.le_of_ble_eq_true rfl) ?_
    refine Ev.mono K ?_
    rintro _ s3 ⟨z4, rfl, K⟩
    show Ev none (d + 3) m_M_count 141 [some (vR 11 0), none, some (vI a2), some (vI a3)] [vI z4, vI a2] s3 post
    refine ev_iadd d_M_count_141 ?_
    refine ev_istore_n (L' := [some (vR 11 0), none, some (vI (a2 + z4)), some (vI a3)]) d_M_count_142 rfl (by decide) rfl ?_
    refine ev_iinc (v := a3 + (1 : Int32)) (L' := [some (vR 11 0), none, some (vI (a2 + z4)), some (vI (a3 + (1 : Int32)))]) d_M_count_143 rfl (congrArg (a3 + ·) (by decide)) (by decide) rfl ?_
    refine ev_goto (tgt := 116) d_M_count_146 rfl ?_
    exact K
set_option maxRecDepth 4000 in
theorem sg_M_fault_0 {d : Nat} {σ : ST}  {post : Option AV → ST → Prop} (K : Ev none (d + 2) m_M_reads 0 [some (vR 11 0), none] [] σ (fun r s1 => ∃ z2 : Int32, r = some (vI z2) ∧ (post (some (vI z2)) s1))) : Ev none (d + 3) m_M_fault 0 [some (vR 11 0)] [] σ post := by
  refine ev_aload_n d_M_fault_0 rfl rfl ?_
  refine ev_callV (as := []) (st := []) (k := 11) (i := 0) g_M_reads ml_M_131 rfl rfl (by decide) (by decide) d_M_fault_1 rfl rfl (Nat.le_of_ble_eq_true rfl) rfl (Nat.le_of_ble_eq_true rfl) ?_
  refine Ev.mono K ?_
  rintro _ s1 ⟨z2, rfl, K⟩
  show Ev none (d + 3) m_M_fault 4 [some (vR 11 0)] [vI z2] s1 post
  exact ev_ret (r := some (vI z2)) d_M_fault_4 rfl rfl K
set_option maxRecDepth 4000 in
theorem sg_M_gainOf_0 {d : Nat} {σ : ST} {a1 : Int32} {a2 : Int32} {a3 : Int32} {a4 : Int32} {post : Option AV → ST → Prop} (K : Ev none (d + 3) m_M_gainOf 6 [some (vR 11 0), some (vI a1), some (vI a2), some (vI a3), some (vI a4), some (vI (0 : Int32)), some (vI (0 : Int32)), none] [] σ post) : Ev none (d + 3) m_M_gainOf 0 [some (vR 11 0), some (vI a1), some (vI a2), some (vI a3), some (vI a4), none, none, none] [] σ post := by
  refine ev_iconst (v := 0) d_M_gainOf_0 (by decide) ?_
  refine ev_istore (L' := [some (vR 11 0), some (vI a1), some (vI a2), some (vI a3), some (vI a4), some (vI (0 : Int32)), none, none]) d_M_gainOf_1 (by decide) rfl ?_
  refine ev_iconst (v := 0) d_M_gainOf_3 (by decide) ?_
  refine ev_istore (L' := [some (vR 11 0), some (vI a1), some (vI a2), some (vI a3), some (vI a4), some (vI (0 : Int32)), some (vI (0 : Int32)), none]) d_M_gainOf_4 (by decide) rfl ?_
  exact K
set_option maxRecDepth 4000 in
theorem sg_M_gainOf_6 {d : Nat} {σ : ST} {a1 : Int32} {a2 : Int32} {a3 : Int32} {a4 : Int32} {a5 : Int32} {a6 : Int32} {post : Option AV → ST → Prop} (K : (((σ.1 11 0 8) ≤ a6) → (post (some (vI a5)) σ)) ∧ (¬ ((σ.1 11 0 8) ≤ a6) → ((((fp_M_isRead σ a6) → ((fs_M_timeOf σ a2 a6) ∧ (fs_M_timeOf σ a1 a6) ∧ (vp_in a1 6))) ∧ (¬ (fp_M_isRead σ a6) → True)) ∧ (∀ z5 : Int32, z5 = (if fp_M_isRead σ a6 then (if ((((fn_M_timeOf σ a2 a6) + a4) - (fn_M_timeOf σ a1 a6)) - a3) ≤ 0 then (a5 + (((σ.1 52 0 (a1.toNatClampNeg)) * a3) - (0 : Int32))) else (a5 + (((σ.1 52 0 (a1.toNatClampNeg)) * a3) - ((((fn_M_timeOf σ a2 a6) + a4) - (fn_M_timeOf σ a1 a6)) - a3)))) else a5) → (Ev none (d + 3) m_M_gainOf 6 [some (vR 11 0), some (vI a1), some (vI a2), some (vI a3), some (vI a4), some (vI z5), some (vI (a6 + (1 : Int32))), none] [] σ post))))) : Ev none (d + 3) m_M_gainOf 6 [some (vR 11 0), some (vI a1), some (vI a2), some (vI a3), some (vI a4), some (vI a5), some (vI a6), none] [] σ post := by
  refine ev_iload d_M_gainOf_6 rfl ?_
  refine ev_aload_n d_M_gainOf_8 rfl rfl ?_
  refine ev_getI gf_M_113 rfl (by decide) d_M_gainOf_9 ?_
  refine ev_icmp_ge (tgt := 77) d_M_gainOf_12 rfl (fun h1 => ?_) (fun h1 => ?_)
  · replace K := K.1 h1
    refine ev_iload d_M_gainOf_77 rfl ?_
    exact ev_ret (r := some (vI a5)) d_M_gainOf_79 rfl rfl K
  · replace K := K.2 h1
    refine ev_aload_n d_M_gainOf_15 rfl rfl ?_
    refine ev_iload d_M_gainOf_16 rfl ?_
    refine ev_callV (as := [vI a6]) (st := []) (k := 11) (i := 0) g_M_isRead ml_M_188 rfl rfl (by decide) (by decide) d_M_gainOf_18 rfl rfl (Nat.le_of_ble_eq_true rfl) rfl (Nat.le_of_ble_eq_true rfl) ?_
    refine f_M_isRead  ?_
    show Ev none (d + 3) m_M_gainOf 21 [some (vR 11 0), some (vI a1), some (vI a2), some (vI a3), some (vI a4), some (vI a5), some (vI a6), none] [vI (bi (fp_M_isRead σ a6))] σ post
    obtain ⟨KS, K⟩ := K
    obtain ⟨z5, ez5⟩ : ∃ z : Int32, z = (if fp_M_isRead σ a6 then (if ((((fn_M_timeOf σ a2 a6) + a4) - (fn_M_timeOf σ a1 a6)) - a3) ≤ 0 then (a5 + (((σ.1 52 0 (a1.toNatClampNeg)) * a3) - (0 : Int32))) else (a5 + (((σ.1 52 0 (a1.toNatClampNeg)) * a3) - ((((fn_M_timeOf σ a2 a6) + a4) - (fn_M_timeOf σ a1 a6)) - a3)))) else a5) := ⟨_, rfl⟩
    replace K := K z5 ez5
    have JJ : Ev none (d + 3) m_M_gainOf 71 [some (vR 11 0), some (vI a1), some (vI a2), some (vI a3), some (vI a4), some (vI z5), some (vI a6), none] [] σ post := by
      refine ev_iinc (v := a6 + (1 : Int32)) (L' := [some (vR 11 0), some (vI a1), some (vI a2), some (vI a3), some (vI a4), some (vI z5), some (vI (a6 + (1 : Int32))), none]) d_M_gainOf_71 rfl (congrArg (a6 + ·) (by decide)) (by decide) rfl ?_
      refine ev_goto (tgt := 6) d_M_gainOf_74 rfl ?_
      exact K
    clear K
    refine ev_ifb_eq (tgt := 71) d_M_gainOf_21 rfl (fun h6 => ?_) (fun h6 => ?_)
    · replace KS := KS.2 h6
      rw [if_neg h6] at ez5
      subst ez5
      exact JJ
    · replace KS := KS.1 h6
      rw [if_pos h6] at ez5
      obtain ⟨q2, q3, q4⟩ := KS
      refine ev_aload_n d_M_gainOf_24 rfl rfl ?_
      refine ev_iload_n d_M_gainOf_25 rfl rfl ?_
      refine ev_iload d_M_gainOf_26 rfl ?_
      refine ev_callV (as := [vI a2, vI a6]) (st := []) (k := 11) (i := 0) g_M_timeOf ml_M_176 rfl rfl (by decide) (by decide) d_M_gainOf_28 rfl rfl (Nat.le_of_ble_eq_true rfl) rfl (Nat.le_of_ble_eq_true rfl) ?_
      refine f_M_timeOf q2 ?_
      show Ev none (d + 3) m_M_gainOf 31 [some (vR 11 0), some (vI a1), some (vI a2), some (vI a3), some (vI a4), some (vI a5), some (vI a6), none] [vI (fn_M_timeOf σ a2 a6)] σ post
      refine ev_iload d_M_gainOf_31 rfl ?_
      refine ev_iadd d_M_gainOf_33 ?_
      refine ev_aload_n d_M_gainOf_34 rfl rfl ?_
      refine ev_iload_n d_M_gainOf_35 rfl rfl ?_
      refine ev_iload d_M_gainOf_36 rfl ?_
      refine ev_callV (as := [vI a1, vI a6]) (st := [vI ((fn_M_timeOf σ a2 a6) + a4)]) (k := 11) (i := 0) g_M_timeOf ml_M_176 rfl rfl (by decide) (by decide) d_M_gainOf_38 rfl rfl (Nat.le_of_ble_eq_true rfl) rfl (Nat.le_of_ble_eq_true rfl) ?_
      refine f_M_timeOf q3 ?_
      show Ev none (d + 3) m_M_gainOf 41 [some (vR 11 0), some (vI a1), some (vI a2), some (vI a3), some (vI a4), some (vI a5), some (vI a6), none] [vI (fn_M_timeOf σ a1 a6), vI ((fn_M_timeOf σ a2 a6) + a4)] σ post
      refine ev_isub d_M_gainOf_41 ?_
      refine ev_iload_n d_M_gainOf_42 rfl rfl ?_
      refine ev_isub d_M_gainOf_43 ?_
      refine ev_istore (L' := [some (vR 11 0), some (vI a1), some (vI a2), some (vI a3), some (vI a4), some (vI a5), some (vI a6), some (vI ((((fn_M_timeOf σ a2 a6) + a4) - (fn_M_timeOf σ a1 a6)) - a3))]) d_M_gainOf_44 (by decide) rfl ?_
      refine ev_iload d_M_gainOf_46 rfl ?_
      refine ev_aload_n d_M_gainOf_48 rfl rfl ?_
      refine ev_getR gf_M_40 rfl (by decide) d_M_gainOf_49 ?_
      refine ev_iload_n d_M_gainOf_52 rfl rfl ?_
      refine ev_iald rfl (by decide) (by decide) q4 d_M_gainOf_53 ?_
      refine ev_iload_n d_M_gainOf_54 rfl rfl ?_
      refine ev_imul d_M_gainOf_55 ?_
      refine ev_iload d_M_gainOf_56 rfl ?_
      refine ev_if_le (tgt := 66) d_M_gainOf_58 rfl (fun h7 => ?_) (fun h7 => ?_)
      · rw [if_pos h7] at ez5
        refine ev_iconst (v := 0) d_M_gainOf_66 (by decide) ?_
        refine ev_isub d_M_gainOf_67 ?_
        refine ev_iadd d_M_gainOf_68 ?_
        refine ev_istore (L' := [some (vR 11 0), some (vI a1), some (vI a2), some (vI a3), some (vI a4), some (vI (a5 + (((σ.1 52 0 (a1.toNatClampNeg)) * a3) - (0 : Int32)))), some (vI a6), some (vI ((((fn_M_timeOf σ a2 a6) + a4) - (fn_M_timeOf σ a1 a6)) - a3))]) d_M_gainOf_69 (by decide) rfl ?_
        subst ez5
        exact Ev.wk (lsub_kp (lsub_kp (lsub_kp (lsub_kp (lsub_kp (lsub_kp (lsub_kp (lsub_sk (lsub_nil))))))))) JJ
      · rw [if_neg h7] at ez5
        refine ev_iload d_M_gainOf_61 rfl ?_
        refine ev_goto (tgt := 67) d_M_gainOf_63 rfl ?_
        refine ev_isub d_M_gainOf_67 ?_
        refine ev_iadd d_M_gainOf_68 ?_
        refine ev_istore (L' := [some (vR 11 0), some (vI a1), some (vI a2), some (vI a3), some (vI a4), some (vI (a5 + (((σ.1 52 0 (a1.toNatClampNeg)) * a3) - ((((fn_M_timeOf σ a2 a6) + a4) - (fn_M_timeOf σ a1 a6)) - a3)))), some (vI a6), some (vI ((((fn_M_timeOf σ a2 a6) + a4) - (fn_M_timeOf σ a1 a6)) - a3))]) d_M_gainOf_69 (by decide) rfl ?_
        subst ez5
        exact Ev.wk (lsub_kp (lsub_kp (lsub_kp (lsub_kp (lsub_kp (lsub_kp (lsub_kp (lsub_sk (lsub_nil))))))))) JJ
set_option maxRecDepth 4000 in
theorem sg_M_isChapter_0 {d : Nat} {σ : ST} {a1 : Int32} {post : Option AV → ST → Prop} (K : Ev none (d + 2) m_M_reads 0 [some (vR 11 0), none] [] σ (fun r s1 => ∃ z2 : Int32, r = some (vI z2) ∧ (post (some (vI (bi (fp_M_in s1 (Int32.toInt64 a1) (0 : Int64) (Int32.toInt64 ((s1.1 11 0 8) - (1 : Int32))))))) s1))) : Ev none (d + 3) m_M_isChapter 0 [some (vR 11 0), some (vI a1)] [] σ post := by
  refine ev_aload_n d_M_isChapter_0 rfl rfl ?_
  refine ev_callV (as := []) (st := []) (k := 11) (i := 0) g_M_reads ml_M_131 rfl rfl (by decide) (by decide) d_M_isChapter_1 rfl rfl (Nat.le_of_ble_eq_true rfl) rfl (Nat.le_of_ble_eq_true rfl) ?_
  refine Ev.mono K ?_
  rintro _ s1 ⟨z2, rfl, K⟩
  show Ev none (d + 3) m_M_isChapter 4 [some (vR 11 0), some (vI a1)] [vI z2] s1 post
  refine ev_pop d_M_isChapter_4 rfl ?_
  refine ev_iload_n d_M_isChapter_5 rfl rfl ?_
  refine ev_i2l d_M_isChapter_6 ?_
  refine ev_lconst (v := 0) d_M_isChapter_7 (by decide) ?_
  refine ev_aload_n d_M_isChapter_8 rfl rfl ?_
  refine ev_getI gf_M_113 rfl (by decide) d_M_isChapter_9 ?_
  refine ev_iconst (v := 1) d_M_isChapter_12 (by decide) ?_
  refine ev_isub d_M_isChapter_13 ?_
  refine ev_i2l d_M_isChapter_14 ?_
  refine ev_callS (as := [vJ (Int32.toInt64 a1), vJ (0 : Int64), vJ (Int32.toInt64 ((s1.1 11 0 8) - (1 : Int32)))]) (st := []) g_M_in ml_M_76 d_M_isChapter_15 rfl rfl (Nat.le_of_ble_eq_true rfl) rfl (Nat.le_of_ble_eq_true rfl) ?_
  refine f_M_in  ?_
  show Ev none (d + 3) m_M_isChapter 18 [some (vR 11 0), some (vI a1)] [vI (bi (fp_M_in s1 (Int32.toInt64 a1) (0 : Int64) (Int32.toInt64 ((s1.1 11 0 8) - (1 : Int32)))))] s1 post
  exact ev_ret (r := some (vI (bi (fp_M_in s1 (Int32.toInt64 a1) (0 : Int64) (Int32.toInt64 ((s1.1 11 0 8) - (1 : Int32))))))) d_M_isChapter_18 rfl ⟨rfl, (bi_01 _)⟩ K
set_option maxRecDepth 4000 in
theorem sg_M_read_0 {d : Nat} {σ : ST} {a1 : Int32} {a2 : Int32} {post : Option AV → ST → Prop} (K : ((fp_M_isSheet σ a1) → (((fp_M_isReader σ a2) → ((vp_in a1 4) ∧ (((0 ≤ (σ.1 42 0 (a1.toNatClampNeg))) → (Ev none (d + 3) m_M_read 34 [some (vR 11 0), some (vI a1), some (vI a2), some (vI (0 : Int32))] [] σ post)) ∧ (¬ (0 ≤ (σ.1 42 0 (a1.toNatClampNeg))) → (Ev none (d + 2) m_M_met 0 [some (vR 11 0), some (vI (1 : Int32))] [] σ (fun r s5 => ∃ z6 : Int32, r = some (vI z6) ∧ (post (some (vI z6)) s5))))))) ∧ (¬ (fp_M_isReader σ a2) → (post (some (vI (-2 : Int32))) σ)))) ∧ (¬ (fp_M_isSheet σ a1) → (post (some (vI (-2 : Int32))) σ))) : Ev none (d + 3) m_M_read 0 [some (vR 11 0), some (vI a1), some (vI a2), none] [] σ post := by
  refine ev_iload_n d_M_read_0 rfl rfl ?_
  refine ev_callS (as := [vI a1]) (st := []) g_M_isSheet ml_M_86 d_M_read_1 rfl rfl (Nat.le_of_ble_eq_true rfl) rfl (Nat.le_of_ble_eq_true rfl) ?_
  refine f_M_isSheet  ?_
  show Ev none (d + 3) m_M_read 4 [some (vR 11 0), some (vI a1), some (vI a2), none] [vI (bi (fp_M_isSheet σ a1))] σ post
  refine ev_ifb_eq (tgt := 14) d_M_read_4 rfl (fun h1 => ?_) (fun h1 => ?_)
  · replace K := K.2 h1
    refine ev_bipush (v := -2) d_M_read_14 (by decide) ?_
    exact ev_ret (r := some (vI (-2 : Int32))) d_M_read_16 rfl rfl K
  · replace K := K.1 h1
    refine ev_iload_n d_M_read_7 rfl rfl ?_
    refine ev_callS (as := [vI a2]) (st := []) g_M_isReader ml_M_149 d_M_read_8 rfl rfl (Nat.le_of_ble_eq_true rfl) rfl (Nat.le_of_ble_eq_true rfl) ?_
    refine f_M_isReader  ?_
    show Ev none (d + 3) m_M_read 11 [some (vR 11 0), some (vI a1), some (vI a2), none] [vI (bi (fp_M_isReader σ a2))] σ post
    refine ev_ifb_ne (tgt := 17) d_M_read_11 rfl (fun h2 => ?_) (fun h2 => ?_)
    · replace K := K.1 h2
      refine ev_aload_n d_M_read_17 rfl rfl ?_
      refine ev_getR gf_M_7 rfl (by decide) d_M_read_18 ?_
      refine ev_iload_n d_M_read_21 rfl rfl ?_
      obtain ⟨q3, K⟩ := K
      refine ev_iald rfl (by decide) (by decide) q3 d_M_read_22 ?_
      refine ev_if_ge (tgt := 32) d_M_read_23 rfl (fun h4 => ?_) (fun h4 => ?_)
      · replace K := K.1 h4
        refine ev_iconst (v := 0) d_M_read_32 (by decide) ?_
        refine ev_istore_n (L' := [some (vR 11 0), some (vI a1), some (vI a2), some (vI (0 : Int32))]) d_M_read_33 rfl (by decide) rfl ?_
        exact K
      · replace K := K.2 h4
        refine ev_aload_n d_M_read_26 rfl rfl ?_
        refine ev_iconst (v := 1) d_M_read_27 (by decide) ?_
        refine ev_callV (as := [vI (1 : Int32)]) (st := []) (k := 11) (i := 0) g_M_met ml_M_92 rfl rfl (by decide) (by decide) d_M_read_28 rfl rfl (Nat.le_of_ble_eq_true rfl) rfl (Nat.le_of_ble_eq_true rfl) ?_
        refine Ev.mono K ?_
        rintro _ s5 ⟨z6, rfl, K⟩
        show Ev none (d + 3) m_M_read 31 [some (vR 11 0), some (vI a1), some (vI a2), none] [vI z6] s5 post
        exact ev_ret (r := some (vI z6)) d_M_read_31 rfl rfl K
    · replace K := K.2 h2
      refine ev_bipush (v := -2) d_M_read_14 (by decide) ?_
      exact ev_ret (r := some (vI (-2 : Int32))) d_M_read_16 rfl rfl K
set_option maxRecDepth 4000 in
theorem sg_M_read_34 {d : Nat} {σ : ST} {a1 : Int32} {a2 : Int32} {a3 : Int32} {post : Option AV → ST → Prop} (K : (vp_in a1 4) ∧ ((((σ.1 43 0 (a1.toNatClampNeg)) ≤ a3) → (post (some (vI a3)) σ)) ∧ (¬ ((σ.1 43 0 (a1.toNatClampNeg)) ≤ a3) → ((vp_in (((60 : Int32) * a1) + a3) 240) ∧ (Ev none (d + 2) m_M_pace 0 [some (vR 11 0), some (vI a2), some (vI a3), some (vI (σ.1 44 0 ((((60 : Int32) * a1) + a3).toNatClampNeg))), none] [] σ (fun r s4 => ∃ z5 : Int32, r = some (vI z5) ∧ (((z5 ≤ 0) → (post (some (vI a3)) s4)) ∧ (¬ (z5 ≤ 0) → (Ev none (d + 3) m_M_read 34 [some (vR 11 0), some (vI a1), some (vI a2), some (vI (a3 + (1 : Int32)))] [] s4 post))))))))) : Ev none (d + 3) m_M_read 34 [some (vR 11 0), some (vI a1), some (vI a2), some (vI a3)] [] σ post := by
  refine ev_iload_n d_M_read_34 rfl rfl ?_
  refine ev_aload_n d_M_read_35 rfl rfl ?_
  refine ev_getR gf_M_13 rfl (by decide) d_M_read_36 ?_
  refine ev_iload_n d_M_read_39 rfl rfl ?_
  obtain ⟨q1, K⟩ := K
  refine ev_iald rfl (by decide) (by decide) q1 d_M_read_40 ?_
  refine ev_icmp_ge (tgt := 70) d_M_read_41 rfl (fun h2 => ?_) (fun h2 => ?_)
  · replace K := K.1 h2
    refine ev_iload_n d_M_read_70 rfl rfl ?_
    exact ev_ret (r := some (vI a3)) d_M_read_71 rfl rfl K
  · replace K := K.2 h2
    refine ev_aload_n d_M_read_44 rfl rfl ?_
    refine ev_iload_n d_M_read_45 rfl rfl ?_
    refine ev_iload_n d_M_read_46 rfl rfl ?_
    refine ev_aload_n d_M_read_47 rfl rfl ?_
    refine ev_getR gf_M_16 rfl (by decide) d_M_read_48 ?_
    refine ev_bipush (v := 60) d_M_read_51 (by decide) ?_
    refine ev_iload_n d_M_read_53 rfl rfl ?_
    refine ev_imul d_M_read_54 ?_
    refine ev_iload_n d_M_read_55 rfl rfl ?_
    refine ev_iadd d_M_read_56 ?_
    obtain ⟨q3, K⟩ := K
    refine ev_iald rfl (by decide) (by decide) q3 d_M_read_57 ?_
    refine ev_callV (as := [vI a2, vI a3, vI (σ.1 44 0 ((((60 : Int32) * a1) + a3).toNatClampNeg))]) (st := []) (k := 11) (i := 0) g_M_pace ml_M_154 rfl rfl (by decide) (by decide) d_M_read_58 rfl rfl (Nat.le_of_ble_eq_true rfl) rfl (Nat.le_of_ble_eq_true rfl) ?_
    refine Ev.mono K ?_
    rintro _ s4 ⟨z5, rfl, K⟩
    show Ev none (d + 3) m_M_read 61 [some (vR 11 0), some (vI a1), some (vI a2), some (vI a3)] [vI z5] s4 post
    refine ev_if_le (tgt := 70) d_M_read_61 rfl (fun h6 => ?_) (fun h6 => ?_)
    · replace K := K.1 h6
      refine ev_iload_n d_M_read_70 rfl rfl ?_
      exact ev_ret (r := some (vI a3)) d_M_read_71 rfl rfl K
    · replace K := K.2 h6
      refine ev_iinc (v := a3 + (1 : Int32)) (L' := [some (vR 11 0), some (vI a1), some (vI a2), some (vI (a3 + (1 : Int32)))]) d_M_read_64 rfl (congrArg (a3 + ·) (by decide)) (by decide) rfl ?_
      refine ev_goto (tgt := 34) d_M_read_67 rfl ?_
      exact K
set_option maxRecDepth 4000 in
theorem sg_M_together_0 {d : Nat} {σ : ST} {a1 : Int32} {a2 : Int32} {post : Option AV → ST → Prop} (K : Ev none (d + 3) m_M_together 5 [some (vR 11 0), some (vI a1), some (vI a2), some (vI (0 : Int32)), some (vI (0 : Int32)), none] [] σ post) : Ev none (d + 3) m_M_together 0 [some (vR 11 0), some (vI a1), some (vI a2), none, none, none] [] σ post := by
  refine ev_iconst (v := 0) d_M_together_0 (by decide) ?_
  refine ev_istore_n (L' := [some (vR 11 0), some (vI a1), some (vI a2), some (vI (0 : Int32)), none, none]) d_M_together_1 rfl (by decide) rfl ?_
  refine ev_iconst (v := 0) d_M_together_2 (by decide) ?_
  refine ev_istore (L' := [some (vR 11 0), some (vI a1), some (vI a2), some (vI (0 : Int32)), some (vI (0 : Int32)), none]) d_M_together_3 (by decide) rfl ?_
  exact K
set_option maxRecDepth 4000 in
theorem sg_M_together_5 {d : Nat} {σ : ST} {a1 : Int32} {a2 : Int32} {a3 : Int32} {a4 : Int32} {post : Option AV → ST → Prop} (K : (((6 : Int32) ≤ a4) → (post (some (vI a3)) σ)) ∧ (¬ ((6 : Int32) ≤ a4) → ((((fp_M_isIn σ a1 a4) → (fs_M_timeOf σ a4 a2)) ∧ (¬ (fp_M_isIn σ a1 a4) → True)) ∧ (∀ z3 : Int32, z3 = (if fp_M_isIn σ a1 a4 then (fn_M_timeOf σ a4 a2) else (0 : Int32)) → (∀ z4 : Int32, z4 = (if z3 ≤ a3 then a3 else z3) → (Ev none (d + 3) m_M_together 5 [some (vR 11 0), some (vI a1), some (vI a2), some (vI z4), some (vI (a4 + (1 : Int32))), none] [] σ post)))))) : Ev none (d + 3) m_M_together 5 [some (vR 11 0), some (vI a1), some (vI a2), some (vI a3), some (vI a4), none] [] σ post := by
  refine ev_iload d_M_together_5 rfl ?_
  refine ev_bipush (v := 6) d_M_together_7 (by decide) ?_
  refine ev_icmp_ge (tgt := 53) d_M_together_9 rfl (fun h1 => ?_) (fun h1 => ?_)
  · replace K := K.1 h1
    refine ev_iload_n d_M_together_53 rfl rfl ?_
    exact ev_ret (r := some (vI a3)) d_M_together_54 rfl rfl K
  · replace K := K.2 h1
    refine ev_iload_n d_M_together_12 rfl rfl ?_
    refine ev_iload d_M_together_13 rfl ?_
    refine ev_callS (as := [vI a1, vI a4]) (st := []) g_M_isIn ml_M_169 d_M_together_15 rfl rfl (Nat.le_of_ble_eq_true rfl) rfl (Nat.le_of_ble_eq_true rfl) ?_
    refine f_M_isIn  ?_
    show Ev none (d + 3) m_M_together 18 [some (vR 11 0), some (vI a1), some (vI a2), some (vI a3), some (vI a4), none] [vI (bi (fp_M_isIn σ a1 a4))] σ post
    obtain ⟨KS, K⟩ := K
    obtain ⟨z3, ez3⟩ : ∃ z : Int32, z = (if fp_M_isIn σ a1 a4 then (fn_M_timeOf σ a4 a2) else (0 : Int32)) := ⟨_, rfl⟩
    replace K := K z3 ez3
    have JJ : Ev none (d + 3) m_M_together 32 [some (vR 11 0), some (vI a1), some (vI a2), some (vI a3), some (vI a4), none] [vI z3] σ post := by
      refine ev_istore (L' := [some (vR 11 0), some (vI a1), some (vI a2), some (vI a3), some (vI a4), some (vI z3)]) d_M_together_32 (by decide) rfl ?_
      refine ev_iload d_M_together_34 rfl ?_
      refine ev_iload_n d_M_together_36 rfl rfl ?_
      obtain ⟨z4, ez4⟩ : ∃ z : Int32, z = (if z3 ≤ a3 then a3 else z3) := ⟨_, rfl⟩
      replace K := K z4 ez4
      have JJ : Ev none (d + 3) m_M_together 46 [some (vR 11 0), some (vI a1), some (vI a2), none, some (vI a4), none] [vI z4] σ post := by
        refine ev_istore_n (L' := [some (vR 11 0), some (vI a1), some (vI a2), some (vI z4), some (vI a4), none]) d_M_together_46 rfl (by decide) rfl ?_
        refine ev_iinc (v := a4 + (1 : Int32)) (L' := [some (vR 11 0), some (vI a1), some (vI a2), some (vI z4), some (vI (a4 + (1 : Int32))), none]) d_M_together_47 rfl (congrArg (a4 + ·) (by decide)) (by decide) rfl ?_
        refine ev_goto (tgt := 5) d_M_together_50 rfl ?_
        exact K
      clear K
      refine ev_icmp_le (tgt := 45) d_M_together_37 rfl (fun h5 => ?_) (fun h5 => ?_)
      · rw [if_pos h5] at ez4
        refine ev_iload_n d_M_together_45 rfl rfl ?_
        subst ez4
        exact Ev.wk (lsub_kp (lsub_kp (lsub_kp (lsub_sk (lsub_kp (lsub_sk (lsub_nil))))))) JJ
      · rw [if_neg h5] at ez4
        refine ev_iload d_M_together_40 rfl ?_
        refine ev_goto (tgt := 46) d_M_together_42 rfl ?_
        subst ez4
        exact Ev.wk (lsub_kp (lsub_kp (lsub_kp (lsub_sk (lsub_kp (lsub_sk (lsub_nil))))))) JJ
    clear K
    refine ev_ifb_eq (tgt := 31) d_M_together_18 rfl (fun h6 => ?_) (fun h6 => ?_)
    · replace KS := KS.2 h6
      rw [if_neg h6] at ez3
      refine ev_iconst (v := 0) d_M_together_31 (by decide) ?_
      subst ez3
      exact JJ
    · replace KS := KS.1 h6
      rw [if_pos h6] at ez3
      have q2 := KS
      refine ev_aload_n d_M_together_21 rfl rfl ?_
      refine ev_iload d_M_together_22 rfl ?_
      refine ev_iload_n d_M_together_24 rfl rfl ?_
      refine ev_callV (as := [vI a4, vI a2]) (st := []) (k := 11) (i := 0) g_M_timeOf ml_M_176 rfl rfl (by decide) (by decide) d_M_together_25 rfl rfl (Nat.le_of_ble_eq_true rfl) rfl (Nat.le_of_ble_eq_true rfl) ?_
      refine f_M_timeOf q2 ?_
      show Ev none (d + 3) m_M_together 28 [some (vR 11 0), some (vI a1), some (vI a2), some (vI a3), some (vI a4), none] [vI (fn_M_timeOf σ a4 a2)] σ post
      refine ev_goto (tgt := 32) d_M_together_28 rfl ?_
      subst ez3
      exact JJ
set_option maxRecDepth 4000 in
theorem sg_M_togetherSo_0 {d : Nat} {σ : ST} {a1 : Int32} {a2 : Int32} {a3 : Int32} {post : Option AV → ST → Prop} (K : Ev none (d + 3) m_M_togetherSo 6 [some (vR 11 0), some (vI a1), some (vI a2), some (vI a3), some (vI (0 : Int32)), some (vI (0 : Int32)), none] [] σ post) : Ev none (d + 3) m_M_togetherSo 0 [some (vR 11 0), some (vI a1), some (vI a2), some (vI a3), none, none, none] [] σ post := by
  refine ev_iconst (v := 0) d_M_togetherSo_0 (by decide) ?_
  refine ev_istore (L' := [some (vR 11 0), some (vI a1), some (vI a2), some (vI a3), some (vI (0 : Int32)), none, none]) d_M_togetherSo_1 (by decide) rfl ?_
  refine ev_iconst (v := 0) d_M_togetherSo_3 (by decide) ?_
  refine ev_istore (L' := [some (vR 11 0), some (vI a1), some (vI a2), some (vI a3), some (vI (0 : Int32)), some (vI (0 : Int32)), none]) d_M_togetherSo_4 (by decide) rfl ?_
  exact K
set_option maxRecDepth 4000 in
theorem sg_M_togetherSo_6 {d : Nat} {σ : ST} {a1 : Int32} {a2 : Int32} {a3 : Int32} {a4 : Int32} {a5 : Int32} {post : Option AV → ST → Prop} (K : (((6 : Int32) ≤ a5) → (post (some (vI a4)) σ)) ∧ (¬ ((6 : Int32) ≤ a5) → ((((fp_M_isIn σ a1 a5) → (((fp_M_isIn σ a2 a5) → (fs_M_timeOf σ a5 a3)) ∧ (¬ (fp_M_isIn σ a2 a5) → (fs_M_timeOf σ a5 a3)))) ∧ (¬ (fp_M_isIn σ a1 a5) → True)) ∧ (∀ z4 : Int32, z4 = (if fp_M_isIn σ a1 a5 then (if fp_M_isIn σ a2 a5 then ((2 : Int32) * (fn_M_timeOf σ a5 a3)) else (fn_M_timeOf σ a5 a3)) else (0 : Int32)) → (∀ z5 : Int32, z5 = (if z4 ≤ a4 then a4 else z4) → (Ev none (d + 3) m_M_togetherSo 6 [some (vR 11 0), some (vI a1), some (vI a2), some (vI a3), some (vI z5), some (vI (a5 + (1 : Int32))), none] [] σ post)))))) : Ev none (d + 3) m_M_togetherSo 6 [some (vR 11 0), some (vI a1), some (vI a2), some (vI a3), some (vI a4), some (vI a5), none] [] σ post := by
  refine ev_iload d_M_togetherSo_6 rfl ?_
  refine ev_bipush (v := 6) d_M_togetherSo_8 (by decide) ?_
  refine ev_icmp_ge (tgt := 78) d_M_togetherSo_10 rfl (fun h1 => ?_) (fun h1 => ?_)
  · replace K := K.1 h1
    refine ev_iload d_M_togetherSo_78 rfl ?_
    exact ev_ret (r := some (vI a4)) d_M_togetherSo_80 rfl rfl K
  · replace K := K.2 h1
    refine ev_iload_n d_M_togetherSo_13 rfl rfl ?_
    refine ev_iload d_M_togetherSo_14 rfl ?_
    refine ev_callS (as := [vI a1, vI a5]) (st := []) g_M_isIn ml_M_169 d_M_togetherSo_16 rfl rfl (Nat.le_of_ble_eq_true rfl) rfl (Nat.le_of_ble_eq_true rfl) ?_
    refine f_M_isIn  ?_
    show Ev none (d + 3) m_M_togetherSo 19 [some (vR 11 0), some (vI a1), some (vI a2), some (vI a3), some (vI a4), some (vI a5), none] [vI (bi (fp_M_isIn σ a1 a5))] σ post
    obtain ⟨KS, K⟩ := K
    obtain ⟨z4, ez4⟩ : ∃ z : Int32, z = (if fp_M_isIn σ a1 a5 then (if fp_M_isIn σ a2 a5 then ((2 : Int32) * (fn_M_timeOf σ a5 a3)) else (fn_M_timeOf σ a5 a3)) else (0 : Int32)) := ⟨_, rfl⟩
    replace K := K z4 ez4
    have JJ : Ev none (d + 3) m_M_togetherSo 54 [some (vR 11 0), some (vI a1), some (vI a2), some (vI a3), some (vI a4), some (vI a5), none] [vI z4] σ post := by
      refine ev_istore (L' := [some (vR 11 0), some (vI a1), some (vI a2), some (vI a3), some (vI a4), some (vI a5), some (vI z4)]) d_M_togetherSo_54 (by decide) rfl ?_
      refine ev_iload d_M_togetherSo_56 rfl ?_
      refine ev_iload d_M_togetherSo_58 rfl ?_
      obtain ⟨z5, ez5⟩ : ∃ z : Int32, z = (if z4 ≤ a4 then a4 else z4) := ⟨_, rfl⟩
      replace K := K z5 ez5
      have JJ : Ev none (d + 3) m_M_togetherSo 70 [some (vR 11 0), some (vI a1), some (vI a2), some (vI a3), none, some (vI a5), none] [vI z5] σ post := by
        refine ev_istore (L' := [some (vR 11 0), some (vI a1), some (vI a2), some (vI a3), some (vI z5), some (vI a5), none]) d_M_togetherSo_70 (by decide) rfl ?_
        refine ev_iinc (v := a5 + (1 : Int32)) (L' := [some (vR 11 0), some (vI a1), some (vI a2), some (vI a3), some (vI z5), some (vI (a5 + (1 : Int32))), none]) d_M_togetherSo_72 rfl (congrArg (a5 + ·) (by decide)) (by decide) rfl ?_
        refine ev_goto (tgt := 6) d_M_togetherSo_75 rfl ?_
        exact K
      clear K
      refine ev_icmp_le (tgt := 68) d_M_togetherSo_60 rfl (fun h6 => ?_) (fun h6 => ?_)
      · rw [if_pos h6] at ez5
        refine ev_iload d_M_togetherSo_68 rfl ?_
        subst ez5
        exact Ev.wk (lsub_kp (lsub_kp (lsub_kp (lsub_kp (lsub_sk (lsub_kp (lsub_sk (lsub_nil)))))))) JJ
      · rw [if_neg h6] at ez5
        refine ev_iload d_M_togetherSo_63 rfl ?_
        refine ev_goto (tgt := 70) d_M_togetherSo_65 rfl ?_
        subst ez5
        exact Ev.wk (lsub_kp (lsub_kp (lsub_kp (lsub_kp (lsub_sk (lsub_kp (lsub_sk (lsub_nil)))))))) JJ
    clear K
    refine ev_ifb_ne (tgt := 26) d_M_togetherSo_19 rfl (fun h7 => ?_) (fun h7 => ?_)
    · replace KS := KS.1 h7
      rw [if_pos h7] at ez4
      refine ev_iload_n d_M_togetherSo_26 rfl rfl ?_
      refine ev_iload d_M_togetherSo_27 rfl ?_
      refine ev_callS (as := [vI a2, vI a5]) (st := []) g_M_isIn ml_M_169 d_M_togetherSo_29 rfl rfl (Nat.le_of_ble_eq_true rfl) rfl (Nat.le_of_ble_eq_true rfl) ?_
      refine f_M_isIn  ?_
      show Ev none (d + 3) m_M_togetherSo 32 [some (vR 11 0), some (vI a1), some (vI a2), some (vI a3), some (vI a4), some (vI a5), none] [vI (bi (fp_M_isIn σ a2 a5))] σ post
      refine ev_ifb_eq (tgt := 47) d_M_togetherSo_32 rfl (fun h8 => ?_) (fun h8 => ?_)
      · replace KS := KS.2 h8
        rw [if_neg h8] at ez4
        have q3 := KS
        refine ev_aload_n d_M_togetherSo_47 rfl rfl ?_
        refine ev_iload d_M_togetherSo_48 rfl ?_
        refine ev_iload_n d_M_togetherSo_50 rfl rfl ?_
        refine ev_callV (as := [vI a5, vI a3]) (st := []) (k := 11) (i := 0) g_M_timeOf ml_M_176 rfl rfl (by decide) (by decide) d_M_togetherSo_51 rfl rfl (Nat.le_of_ble_eq_true rfl) rfl (Nat.le_of_ble_eq_true rfl) ?_
        refine f_M_timeOf q3 ?_
        show Ev none (d + 3) m_M_togetherSo 54 [some (vR 11 0), some (vI a1), some (vI a2), some (vI a3), some (vI a4), some (vI a5), none] [vI (fn_M_timeOf σ a5 a3)] σ post
        subst ez4
        exact JJ
      · replace KS := KS.1 h8
        rw [if_pos h8] at ez4
        have q2 := KS
        refine ev_iconst (v := 2) d_M_togetherSo_35 (by decide) ?_
        refine ev_aload_n d_M_togetherSo_36 rfl rfl ?_
        refine ev_iload d_M_togetherSo_37 rfl ?_
        refine ev_iload_n d_M_togetherSo_39 rfl rfl ?_
        refine ev_callV (as := [vI a5, vI a3]) (st := [vI (2 : Int32)]) (k := 11) (i := 0) g_M_timeOf ml_M_176 rfl rfl (by decide) (by decide) d_M_togetherSo_40 rfl rfl (Nat.le_of_ble_eq_true rfl) rfl (Nat.le_of_ble_eq_true rfl) ?_
        refine f_M_timeOf q2 ?_
        show Ev none (d + 3) m_M_togetherSo 43 [some (vR 11 0), some (vI a1), some (vI a2), some (vI a3), some (vI a4), some (vI a5), none] [vI (fn_M_timeOf σ a5 a3), vI (2 : Int32)] σ post
        refine ev_imul d_M_togetherSo_43 ?_
        refine ev_goto (tgt := 54) d_M_togetherSo_44 rfl ?_
        subst ez4
        exact JJ
    · replace KS := KS.2 h7
      rw [if_neg h7] at ez4
      refine ev_iconst (v := 0) d_M_togetherSo_22 (by decide) ?_
      refine ev_goto (tgt := 54) d_M_togetherSo_23 rfl ?_
      subst ez4
      exact JJ
set_option maxRecDepth 4000 in
theorem sg_M_tries_0 {d : Nat} {σ : ST} {a1 : Int32} {a2 : Int32} {post : Option AV → ST → Prop} (K : Ev none (d + 3) m_M_tries 17 [some (vR 11 0), some (vI a1), some (vI a2), some (vI (0 : Int32)), some (vI (0 : Int32)), some (vI (0 : Int32)), some (vI (0 : Int32)), some (vI (0 : Int32)), some (vI (0 : Int32)), none, none] [] σ post) : Ev none (d + 3) m_M_tries 0 [some (vR 11 0), some (vI a1), some (vI a2), none, none, none, none, none, none, none, none] [] σ post := by
  refine ev_iconst (v := 0) d_M_tries_0 (by decide) ?_
  refine ev_istore_n (L' := [some (vR 11 0), some (vI a1), some (vI a2), some (vI (0 : Int32)), none, none, none, none, none, none, none]) d_M_tries_1 rfl (by decide) rfl ?_
  refine ev_iconst (v := 0) d_M_tries_2 (by decide) ?_
  refine ev_istore (L' := [some (vR 11 0), some (vI a1), some (vI a2), some (vI (0 : Int32)), some (vI (0 : Int32)), none, none, none, none, none, none]) d_M_tries_3 (by decide) rfl ?_
  refine ev_iconst (v := 0) d_M_tries_5 (by decide) ?_
  refine ev_istore (L' := [some (vR 11 0), some (vI a1), some (vI a2), some (vI (0 : Int32)), some (vI (0 : Int32)), some (vI (0 : Int32)), none, none, none, none, none]) d_M_tries_6 (by decide) rfl ?_
  refine ev_iconst (v := 0) d_M_tries_8 (by decide) ?_
  refine ev_istore (L' := [some (vR 11 0), some (vI a1), some (vI a2), some (vI (0 : Int32)), some (vI (0 : Int32)), some (vI (0 : Int32)), some (vI (0 : Int32)), none, none, none, none]) d_M_tries_9 (by decide) rfl ?_
  refine ev_iconst (v := 0) d_M_tries_11 (by decide) ?_
  refine ev_istore (L' := [some (vR 11 0), some (vI a1), some (vI a2), some (vI (0 : Int32)), some (vI (0 : Int32)), some (vI (0 : Int32)), some (vI (0 : Int32)), some (vI (0 : Int32)), none, none, none]) d_M_tries_12 (by decide) rfl ?_
  refine ev_iconst (v := 0) d_M_tries_14 (by decide) ?_
  refine ev_istore (L' := [some (vR 11 0), some (vI a1), some (vI a2), some (vI (0 : Int32)), some (vI (0 : Int32)), some (vI (0 : Int32)), some (vI (0 : Int32)), some (vI (0 : Int32)), some (vI (0 : Int32)), none, none]) d_M_tries_15 (by decide) rfl ?_
  exact K
set_option maxRecDepth 4000 in
theorem sg_M_tries_17 {d : Nat} {σ : ST} {a1 : Int32} {a2 : Int32} {a3 : Int32} {a4 : Int32} {a5 : Int32} {a6 : Int32} {a7 : Int32} {a8 : Int32} {post : Option AV → ST → Prop} (K : (((σ.1 11 0 8) ≤ a8) → (∀ z9 : Int32, z9 = (bi (¬ ((σ.1 54 0 ((0 : Int32).toNatClampNeg)) < a5) ∧ (¬ ((σ.1 54 0 ((1 : Int32).toNatClampNeg)) < a6) ∧ (¬ ((σ.1 54 0 ((1 : Int32).toNatClampNeg)) < a7))))) → ((((z9 = 0) ∨ (¬ ((σ.1 11 0 24) < a3) ∧ (¬ (a3 = (σ.1 11 0 24)) ∨ ((σ.1 11 0 25) ≤ a4)))) → (post none σ)) ∧ (¬ ((z9 = 0) ∨ (¬ ((σ.1 11 0 24) < a3) ∧ (¬ (a3 = (σ.1 11 0 24)) ∨ ((σ.1 11 0 25) ≤ a4)))) → (Ev none (d + 3) m_M_tries 269 [some (vR 11 0), none, none, none, none, none, none, none, none, some (vI (0 : Int32)), none] [] (setI (setI (setI σ 11 0 24 a3) 11 0 25 a4) 11 0 26 a5) post))))) ∧ (¬ ((σ.1 11 0 8) ≤ a8) → ((fs_M_timeOf σ a1 a8) ∧ ((fs_M_timeOf σ a2 a8) ∧ ((vp_in a8 8) ∧ (((((2 : Int32) ≤ (σ.1 56 0 (a8.toNatClampNeg))) → True) ∧ (¬ ((2 : Int32) ≤ (σ.1 56 0 (a8.toNatClampNeg))) → (vp_in a8 8))) ∧ (∀ z23 : Int32, z23 = (if (2 : Int32) ≤ (σ.1 56 0 (a8.toNatClampNeg)) then (0 : Int32) else (σ.1 48 0 (a8.toNatClampNeg))) → ((vp_in a8 8) ∧ (∀ z25 : Int32, z25 = (if (σ.1 56 0 (a8.toNatClampNeg)) = 0 then (fn_M_amount σ ((fn_M_timeOf σ a1 a8) - (fn_M_timeOf σ a2 a8))) else (0 : Int32)) → ((vp_in a8 8) ∧ (∀ z27 : Int32, z27 = (if (σ.1 56 0 (a8.toNatClampNeg)) = 0 then (if (fn_M_timeOf σ a1 a8) ≤ (fn_M_timeOf σ a2 a8) then (fn_M_timeOf σ a2 a8) else (fn_M_timeOf σ a1 a8)) else (0 : Int32)) → ((vp_in a8 8) ∧ (∀ z29 : Int32, z29 = (if (σ.1 56 0 (a8.toNatClampNeg)) = (1 : Int32) then (fn_M_timeOf σ a1 a8) else (0 : Int32)) → ((vp_in a8 8) ∧ (∀ z31 : Int32, z31 = (if (σ.1 56 0 (a8.toNatClampNeg)) = (1 : Int32) then (fn_M_timeOf σ a2 a8) else (0 : Int32)) → (Ev none (d + 3) m_M_tries 17 [some (vR 11 0), some (vI a1), some (vI a2), some (vI (a3 + z23)), some (vI (a4 + z25)), some (vI (a5 + z27)), some (vI (a6 + z29)), some (vI (a7 + z31)), some (vI (a8 + (1 : Int32))), none, none] [] σ post)))))))))))))))) : Ev none (d + 3) m_M_tries 17 [some (vR 11 0), some (vI a1), some (vI a2), some (vI a3), some (vI a4), some (vI a5), some (vI a6), some (vI a7), some (vI a8), none, none] [] σ post := by
  refine ev_iload d_M_tries_17 rfl ?_
  refine ev_aload_n d_M_tries_19 rfl rfl ?_
  refine ev_getI gf_M_113 rfl (by decide) d_M_tries_20 ?_
  refine ev_icmp_ge (tgt := 179) d_M_tries_23 rfl (fun h8 => ?_) (fun h8 => ?_)
  · replace K := K.1 h8
    refine ev_iload d_M_tries_179 rfl ?_
    refine ev_aload_n d_M_tries_181 rfl rfl ?_
    refine ev_getR gf_M_46 rfl (by decide) d_M_tries_182 ?_
    refine ev_iconst (v := 0) d_M_tries_185 (by decide) ?_
    refine ev_iald rfl (by decide) (by decide) (by unfold vp_in; decide) d_M_tries_186 ?_
    obtain ⟨z9, ez9⟩ : ∃ z : Int32, z = (bi (¬ ((σ.1 54 0 ((0 : Int32).toNatClampNeg)) < a5) ∧ (¬ ((σ.1 54 0 ((1 : Int32).toNatClampNeg)) < a6) ∧ (¬ ((σ.1 54 0 ((1 : Int32).toNatClampNeg)) < a7))))) := ⟨_, rfl⟩
    replace K := K z9 ez9
    have JJ : Ev none (d + 3) m_M_tries 217 [some (vR 11 0), none, none, some (vI a3), some (vI a4), some (vI a5), none, none, none, none, none] [vI z9] σ post := by
      refine ev_istore (L' := [some (vR 11 0), none, none, some (vI a3), some (vI a4), some (vI a5), none, none, some (vI z9), none, none]) d_M_tries_217 (by decide) rfl ?_
      refine ev_iload d_M_tries_219 rfl ?_
      obtain ⟨w10, e11⟩ : ∃ w : Int32, w = bi ((z9 = 0) ∨ (¬ ((σ.1 11 0 24) < a3) ∧ (¬ (a3 = (σ.1 11 0 24)) ∨ ((σ.1 11 0 25) ≤ a4)))) := ⟨_, rfl⟩
      have J1 : w10 = 1 → Ev none (d + 3) m_M_tries 298 [some (vR 11 0), none, none, some (vI a3), some (vI a4), some (vI a5), none, none, some (vI z9), none, none] [] σ post := by
        intro e111
        replace K := K.1 (bi_1.mp ((e11.symm).trans e111))
        exact ev_ret (r := none) d_M_tries_298 rfl rfl K
      have J0 : w10 = 0 → Ev none (d + 3) m_M_tries 249 [some (vR 11 0), none, none, some (vI a3), some (vI a4), some (vI a5), none, none, some (vI z9), none, none] [] σ post := by
        intro e110
        replace K := K.2 (bi_0.mp ((e11.symm).trans e110))
        refine ev_aload_n d_M_tries_249 rfl rfl ?_
        refine ev_iload_n d_M_tries_250 rfl rfl ?_
        refine ev_putI gp_M_211 rfl (by decide) d_M_tries_251 ?_
        refine ev_aload_n d_M_tries_254 rfl rfl ?_
        refine ev_iload d_M_tries_255 rfl ?_
        refine ev_putI gp_M_214 rfl (by decide) d_M_tries_257 ?_
        refine ev_aload_n d_M_tries_260 rfl rfl ?_
        refine ev_iload d_M_tries_261 rfl ?_
        refine ev_putI gp_M_217 rfl (by decide) d_M_tries_263 ?_
        refine ev_iconst (v := 0) d_M_tries_266 (by decide) ?_
        refine ev_istore (L' := [some (vR 11 0), none, none, some (vI a3), some (vI a4), some (vI a5), none, none, some (vI z9), some (vI (0 : Int32)), none]) d_M_tries_267 (by decide) rfl ?_
        exact Ev.wk (lsub_kp (lsub_sk (lsub_sk (lsub_sk (lsub_sk (lsub_sk (lsub_sk (lsub_sk (lsub_sk (lsub_kp (lsub_sk (lsub_nil)))))))))))) K
      clear K
      refine ev_if_eq (tgt := 298) d_M_tries_221 rfl (fun h12 => ?_) (fun h12 => ?_)
      · rw [b4t h12] at e11
        exact J1 e11
      · rw [b4f h12] at e11
        refine ev_iload_n d_M_tries_224 rfl rfl ?_
        refine ev_aload_n d_M_tries_225 rfl rfl ?_
        refine ev_getI gf_M_211 rfl (by decide) d_M_tries_226 ?_
        refine ev_icmp_gt (tgt := 249) d_M_tries_229 rfl (fun h13 => ?_) (fun h13 => ?_)
        · rw [b5t h13] at e11
          exact J0 e11
        · rw [b5f h13] at e11
          refine ev_iload_n d_M_tries_232 rfl rfl ?_
          refine ev_aload_n d_M_tries_233 rfl rfl ?_
          refine ev_getI gf_M_211 rfl (by decide) d_M_tries_234 ?_
          refine ev_icmp_ne (tgt := 298) d_M_tries_237 rfl (fun h14 => ?_) (fun h14 => ?_)
          · rw [b6f h14] at e11
            exact J1 e11
          · rw [b6t h14] at e11
            refine ev_iload d_M_tries_240 rfl ?_
            refine ev_aload_n d_M_tries_242 rfl rfl ?_
            refine ev_getI gf_M_214 rfl (by decide) d_M_tries_243 ?_
            refine ev_icmp_ge (tgt := 298) d_M_tries_246 rfl (fun h15 => ?_) (fun h15 => ?_)
            · rw [bi_t h15] at e11
              exact J1 e11
            · rw [bi_f h15] at e11
              exact J0 e11
    clear K
    refine ev_icmp_gt (tgt := 216) d_M_tries_187 rfl (fun h16 => ?_) (fun h16 => ?_)
    · rw [b5t h16] at ez9
      refine ev_iconst (v := 0) d_M_tries_216 (by decide) ?_
      subst ez9
      exact Ev.wk (lsub_kp (lsub_sk (lsub_sk (lsub_kp (lsub_kp (lsub_kp (lsub_sk (lsub_sk (lsub_sk (lsub_sk (lsub_sk (lsub_nil)))))))))))) JJ
    · rw [b5f h16] at ez9
      refine ev_iload d_M_tries_190 rfl ?_
      refine ev_aload_n d_M_tries_192 rfl rfl ?_
      refine ev_getR gf_M_46 rfl (by decide) d_M_tries_193 ?_
      refine ev_iconst (v := 1) d_M_tries_196 (by decide) ?_
      refine ev_iald rfl (by decide) (by decide) (by unfold vp_in; decide) d_M_tries_197 ?_
      refine ev_icmp_gt (tgt := 216) d_M_tries_198 rfl (fun h17 => ?_) (fun h17 => ?_)
      · rw [b5t h17] at ez9
        refine ev_iconst (v := 0) d_M_tries_216 (by decide) ?_
        subst ez9
        exact Ev.wk (lsub_kp (lsub_sk (lsub_sk (lsub_kp (lsub_kp (lsub_kp (lsub_sk (lsub_sk (lsub_sk (lsub_sk (lsub_sk (lsub_nil)))))))))))) JJ
      · rw [b5f h17] at ez9
        refine ev_iload d_M_tries_201 rfl ?_
        refine ev_aload_n d_M_tries_203 rfl rfl ?_
        refine ev_getR gf_M_46 rfl (by decide) d_M_tries_204 ?_
        refine ev_iconst (v := 1) d_M_tries_207 (by decide) ?_
        refine ev_iald rfl (by decide) (by decide) (by unfold vp_in; decide) d_M_tries_208 ?_
        refine ev_icmp_gt (tgt := 216) d_M_tries_209 rfl (fun h18 => ?_) (fun h18 => ?_)
        · rw [bi_f (not_not_intro h18)] at ez9
          refine ev_iconst (v := 0) d_M_tries_216 (by decide) ?_
          subst ez9
          exact Ev.wk (lsub_kp (lsub_sk (lsub_sk (lsub_kp (lsub_kp (lsub_kp (lsub_sk (lsub_sk (lsub_sk (lsub_sk (lsub_sk (lsub_nil)))))))))))) JJ
        · rw [bi_t h18] at ez9
          refine ev_iconst (v := 1) d_M_tries_212 (by decide) ?_
          refine ev_goto (tgt := 217) d_M_tries_213 rfl ?_
          subst ez9
          exact Ev.wk (lsub_kp (lsub_sk (lsub_sk (lsub_kp (lsub_kp (lsub_kp (lsub_sk (lsub_sk (lsub_sk (lsub_sk (lsub_sk (lsub_nil)))))))))))) JJ
  · replace K := K.2 h8
    refine ev_aload_n d_M_tries_26 rfl rfl ?_
    refine ev_iload_n d_M_tries_27 rfl rfl ?_
    refine ev_iload d_M_tries_28 rfl ?_
    obtain ⟨q19, K⟩ := K
    refine ev_callV (as := [vI a1, vI a8]) (st := []) (k := 11) (i := 0) g_M_timeOf ml_M_176 rfl rfl (by decide) (by decide) d_M_tries_30 rfl rfl (Nat.le_of_ble_eq_true rfl) rfl (Nat.le_of_ble_eq_true rfl) ?_
    refine f_M_timeOf q19 ?_
    show Ev none (d + 3) m_M_tries 33 [some (vR 11 0), some (vI a1), some (vI a2), some (vI a3), some (vI a4), some (vI a5), some (vI a6), some (vI a7), some (vI a8), none, none] [vI (fn_M_timeOf σ a1 a8)] σ post
    refine ev_istore (L' := [some (vR 11 0), some (vI a1), some (vI a2), some (vI a3), some (vI a4), some (vI a5), some (vI a6), some (vI a7), some (vI a8), some (vI (fn_M_timeOf σ a1 a8)), none]) d_M_tries_33 (by decide) rfl ?_
    refine ev_aload_n d_M_tries_35 rfl rfl ?_
    refine ev_iload_n d_M_tries_36 rfl rfl ?_
    refine ev_iload d_M_tries_37 rfl ?_
    obtain ⟨q20, K⟩ := K
    refine ev_callV (as := [vI a2, vI a8]) (st := []) (k := 11) (i := 0) g_M_timeOf ml_M_176 rfl rfl (by decide) (by decide) d_M_tries_39 rfl rfl (Nat.le_of_ble_eq_true rfl) rfl (Nat.le_of_ble_eq_true rfl) ?_
    refine f_M_timeOf q20 ?_
    show Ev none (d + 3) m_M_tries 42 [some (vR 11 0), some (vI a1), some (vI a2), some (vI a3), some (vI a4), some (vI a5), some (vI a6), some (vI a7), some (vI a8), some (vI (fn_M_timeOf σ a1 a8)), none] [vI (fn_M_timeOf σ a2 a8)] σ post
    refine ev_istore (L' := [some (vR 11 0), some (vI a1), some (vI a2), some (vI a3), some (vI a4), some (vI a5), some (vI a6), some (vI a7), some (vI a8), some (vI (fn_M_timeOf σ a1 a8)), some (vI (fn_M_timeOf σ a2 a8))]) d_M_tries_42 (by decide) rfl ?_
    refine ev_iload_n d_M_tries_44 rfl rfl ?_
    refine ev_aload_n d_M_tries_45 rfl rfl ?_
    refine ev_getR gf_M_52 rfl (by decide) d_M_tries_46 ?_
    refine ev_iload d_M_tries_49 rfl ?_
    obtain ⟨q21, K⟩ := K
    refine ev_iald rfl (by decide) (by decide) q21 d_M_tries_51 ?_
    refine ev_iconst (v := 2) d_M_tries_52 (by decide) ?_
    obtain ⟨KS, K⟩ := K
    obtain ⟨z23, ez23⟩ : ∃ z : Int32, z = (if (2 : Int32) ≤ (σ.1 56 0 (a8.toNatClampNeg)) then (0 : Int32) else (σ.1 48 0 (a8.toNatClampNeg))) := ⟨_, rfl⟩
    replace K := K z23 ez23
    have JJ : Ev none (d + 3) m_M_tries 67 [some (vR 11 0), some (vI a1), some (vI a2), none, some (vI a4), some (vI a5), some (vI a6), some (vI a7), some (vI a8), some (vI (fn_M_timeOf σ a1 a8)), some (vI (fn_M_timeOf σ a2 a8))] [vI z23, vI a3] σ post := by
      refine ev_iadd d_M_tries_67 ?_
      refine ev_istore_n (L' := [some (vR 11 0), some (vI a1), some (vI a2), some (vI (a3 + z23)), some (vI a4), some (vI a5), some (vI a6), some (vI a7), some (vI a8), some (vI (fn_M_timeOf σ a1 a8)), some (vI (fn_M_timeOf σ a2 a8))]) d_M_tries_68 rfl (by decide) rfl ?_
      refine ev_iload d_M_tries_69 rfl ?_
      refine ev_aload_n d_M_tries_71 rfl rfl ?_
      refine ev_getR gf_M_52 rfl (by decide) d_M_tries_72 ?_
      refine ev_iload d_M_tries_75 rfl ?_
      obtain ⟨q24, K⟩ := K
      refine ev_iald rfl (by decide) (by decide) q24 d_M_tries_77 ?_
      obtain ⟨z25, ez25⟩ : ∃ z : Int32, z = (if (σ.1 56 0 (a8.toNatClampNeg)) = 0 then (fn_M_amount σ ((fn_M_timeOf σ a1 a8) - (fn_M_timeOf σ a2 a8))) else (0 : Int32)) := ⟨_, rfl⟩
      replace K := K z25 ez25
      have JJ : Ev none (d + 3) m_M_tries 93 [some (vR 11 0), some (vI a1), some (vI a2), some (vI (a3 + z23)), none, some (vI a5), some (vI a6), some (vI a7), some (vI a8), some (vI (fn_M_timeOf σ a1 a8)), some (vI (fn_M_timeOf σ a2 a8))] [vI z25, vI a4] σ post := by
        refine ev_iadd d_M_tries_93 ?_
        refine ev_istore (L' := [some (vR 11 0), some (vI a1), some (vI a2), some (vI (a3 + z23)), some (vI (a4 + z25)), some (vI a5), some (vI a6), some (vI a7), some (vI a8), some (vI (fn_M_timeOf σ a1 a8)), some (vI (fn_M_timeOf σ a2 a8))]) d_M_tries_94 (by decide) rfl ?_
        refine ev_iload d_M_tries_96 rfl ?_
        refine ev_aload_n d_M_tries_98 rfl rfl ?_
        refine ev_getR gf_M_52 rfl (by decide) d_M_tries_99 ?_
        refine ev_iload d_M_tries_102 rfl ?_
        obtain ⟨q26, K⟩ := K
        refine ev_iald rfl (by decide) (by decide) q26 d_M_tries_104 ?_
        obtain ⟨z27, ez27⟩ : ∃ z : Int32, z = (if (σ.1 56 0 (a8.toNatClampNeg)) = 0 then (if (fn_M_timeOf σ a1 a8) ≤ (fn_M_timeOf σ a2 a8) then (fn_M_timeOf σ a2 a8) else (fn_M_timeOf σ a1 a8)) else (0 : Int32)) := ⟨_, rfl⟩
        replace K := K z27 ez27
        have JJ : Ev none (d + 3) m_M_tries 126 [some (vR 11 0), some (vI a1), some (vI a2), some (vI (a3 + z23)), some (vI (a4 + z25)), none, some (vI a6), some (vI a7), some (vI a8), some (vI (fn_M_timeOf σ a1 a8)), some (vI (fn_M_timeOf σ a2 a8))] [vI z27, vI a5] σ post := by
          refine ev_iadd d_M_tries_126 ?_
          refine ev_istore (L' := [some (vR 11 0), some (vI a1), some (vI a2), some (vI (a3 + z23)), some (vI (a4 + z25)), some (vI (a5 + z27)), some (vI a6), some (vI a7), some (vI a8), some (vI (fn_M_timeOf σ a1 a8)), some (vI (fn_M_timeOf σ a2 a8))]) d_M_tries_127 (by decide) rfl ?_
          refine ev_iload d_M_tries_129 rfl ?_
          refine ev_aload_n d_M_tries_131 rfl rfl ?_
          refine ev_getR gf_M_52 rfl (by decide) d_M_tries_132 ?_
          refine ev_iload d_M_tries_135 rfl ?_
          obtain ⟨q28, K⟩ := K
          refine ev_iald rfl (by decide) (by decide) q28 d_M_tries_137 ?_
          refine ev_iconst (v := 1) d_M_tries_138 (by decide) ?_
          obtain ⟨z29, ez29⟩ : ∃ z : Int32, z = (if (σ.1 56 0 (a8.toNatClampNeg)) = (1 : Int32) then (fn_M_timeOf σ a1 a8) else (0 : Int32)) := ⟨_, rfl⟩
          replace K := K z29 ez29
          have JJ : Ev none (d + 3) m_M_tries 148 [some (vR 11 0), some (vI a1), some (vI a2), some (vI (a3 + z23)), some (vI (a4 + z25)), some (vI (a5 + z27)), none, some (vI a7), some (vI a8), none, some (vI (fn_M_timeOf σ a2 a8))] [vI z29, vI a6] σ post := by
            refine ev_iadd d_M_tries_148 ?_
            refine ev_istore (L' := [some (vR 11 0), some (vI a1), some (vI a2), some (vI (a3 + z23)), some (vI (a4 + z25)), some (vI (a5 + z27)), some (vI (a6 + z29)), some (vI a7), some (vI a8), none, some (vI (fn_M_timeOf σ a2 a8))]) d_M_tries_149 (by decide) rfl ?_
            refine ev_iload d_M_tries_151 rfl ?_
            refine ev_aload_n d_M_tries_153 rfl rfl ?_
            refine ev_getR gf_M_52 rfl (by decide) d_M_tries_154 ?_
            refine ev_iload d_M_tries_157 rfl ?_
            obtain ⟨q30, K⟩ := K
            refine ev_iald rfl (by decide) (by decide) q30 d_M_tries_159 ?_
            refine ev_iconst (v := 1) d_M_tries_160 (by decide) ?_
            obtain ⟨z31, ez31⟩ : ∃ z : Int32, z = (if (σ.1 56 0 (a8.toNatClampNeg)) = (1 : Int32) then (fn_M_timeOf σ a2 a8) else (0 : Int32)) := ⟨_, rfl⟩
            replace K := K z31 ez31
            have JJ : Ev none (d + 3) m_M_tries 170 [some (vR 11 0), some (vI a1), some (vI a2), some (vI (a3 + z23)), some (vI (a4 + z25)), some (vI (a5 + z27)), some (vI (a6 + z29)), none, some (vI a8), none, none] [vI z31, vI a7] σ post := by
              refine ev_iadd d_M_tries_170 ?_
              refine ev_istore (L' := [some (vR 11 0), some (vI a1), some (vI a2), some (vI (a3 + z23)), some (vI (a4 + z25)), some (vI (a5 + z27)), some (vI (a6 + z29)), some (vI (a7 + z31)), some (vI a8), none, none]) d_M_tries_171 (by decide) rfl ?_
              refine ev_iinc (v := a8 + (1 : Int32)) (L' := [some (vR 11 0), some (vI a1), some (vI a2), some (vI (a3 + z23)), some (vI (a4 + z25)), some (vI (a5 + z27)), some (vI (a6 + z29)), some (vI (a7 + z31)), some (vI (a8 + (1 : Int32))), none, none]) d_M_tries_173 rfl (congrArg (a8 + ·) (by decide)) (by decide) rfl ?_
              refine ev_goto (tgt := 17) d_M_tries_176 rfl ?_
              exact K
            clear K
            refine ev_icmp_ne (tgt := 169) d_M_tries_161 rfl (fun h32 => ?_) (fun h32 => ?_)
            · rw [if_neg h32] at ez31
              refine ev_iconst (v := 0) d_M_tries_169 (by decide) ?_
              subst ez31
              exact Ev.wk (lsub_kp (lsub_kp (lsub_kp (lsub_kp (lsub_kp (lsub_kp (lsub_kp (lsub_sk (lsub_kp (lsub_sk (lsub_sk (lsub_nil)))))))))))) JJ
            · rw [if_pos h32] at ez31
              refine ev_iload d_M_tries_164 rfl ?_
              refine ev_goto (tgt := 170) d_M_tries_166 rfl ?_
              subst ez31
              exact Ev.wk (lsub_kp (lsub_kp (lsub_kp (lsub_kp (lsub_kp (lsub_kp (lsub_kp (lsub_sk (lsub_kp (lsub_sk (lsub_sk (lsub_nil)))))))))))) JJ
          clear K
          refine ev_icmp_ne (tgt := 147) d_M_tries_139 rfl (fun h33 => ?_) (fun h33 => ?_)
          · rw [if_neg h33] at ez29
            refine ev_iconst (v := 0) d_M_tries_147 (by decide) ?_
            subst ez29
            exact Ev.wk (lsub_kp (lsub_kp (lsub_kp (lsub_kp (lsub_kp (lsub_kp (lsub_sk (lsub_kp (lsub_kp (lsub_sk (lsub_kp (lsub_nil)))))))))))) JJ
          · rw [if_pos h33] at ez29
            refine ev_iload d_M_tries_142 rfl ?_
            refine ev_goto (tgt := 148) d_M_tries_144 rfl ?_
            subst ez29
            exact Ev.wk (lsub_kp (lsub_kp (lsub_kp (lsub_kp (lsub_kp (lsub_kp (lsub_sk (lsub_kp (lsub_kp (lsub_sk (lsub_kp (lsub_nil)))))))))))) JJ
        clear K
        refine ev_if_ne (tgt := 125) d_M_tries_105 rfl (fun h34 => ?_) (fun h34 => ?_)
        · rw [if_neg h34] at ez27
          refine ev_iconst (v := 0) d_M_tries_125 (by decide) ?_
          subst ez27
          exact Ev.wk (lsub_kp (lsub_kp (lsub_kp (lsub_kp (lsub_kp (lsub_sk (lsub_kp (lsub_kp (lsub_kp (lsub_kp (lsub_kp (lsub_nil)))))))))))) JJ
        · rw [if_pos h34] at ez27
          refine ev_iload d_M_tries_108 rfl ?_
          refine ev_iload d_M_tries_110 rfl ?_
          refine ev_icmp_le (tgt := 120) d_M_tries_112 rfl (fun h35 => ?_) (fun h35 => ?_)
          · rw [if_pos h35] at ez27
            refine ev_iload d_M_tries_120 rfl ?_
            refine ev_goto (tgt := 126) d_M_tries_122 rfl ?_
            subst ez27
            exact Ev.wk (lsub_kp (lsub_kp (lsub_kp (lsub_kp (lsub_kp (lsub_sk (lsub_kp (lsub_kp (lsub_kp (lsub_kp (lsub_kp (lsub_nil)))))))))))) JJ
          · rw [if_neg h35] at ez27
            refine ev_iload d_M_tries_115 rfl ?_
            refine ev_goto (tgt := 126) d_M_tries_117 rfl ?_
            subst ez27
            exact Ev.wk (lsub_kp (lsub_kp (lsub_kp (lsub_kp (lsub_kp (lsub_sk (lsub_kp (lsub_kp (lsub_kp (lsub_kp (lsub_kp (lsub_nil)))))))))))) JJ
      clear K
      refine ev_if_ne (tgt := 92) d_M_tries_78 rfl (fun h36 => ?_) (fun h36 => ?_)
      · rw [if_neg h36] at ez25
        refine ev_iconst (v := 0) d_M_tries_92 (by decide) ?_
        subst ez25
        exact Ev.wk (lsub_kp (lsub_kp (lsub_kp (lsub_kp (lsub_sk (lsub_kp (lsub_kp (lsub_kp (lsub_kp (lsub_kp (lsub_kp (lsub_nil)))))))))))) JJ
      · rw [if_pos h36] at ez25
        refine ev_iload d_M_tries_81 rfl ?_
        refine ev_iload d_M_tries_83 rfl ?_
        refine ev_isub d_M_tries_85 ?_
        refine ev_callS (as := [vI ((fn_M_timeOf σ a1 a8) - (fn_M_timeOf σ a2 a8))]) (st := [vI a4]) g_M_amount ml_M_208 d_M_tries_86 rfl rfl (Nat.le_of_ble_eq_true rfl) rfl (Nat.le_of_ble_eq_true rfl) ?_
        refine f_M_amount  ?_
        show Ev none (d + 3) m_M_tries 89 [some (vR 11 0), some (vI a1), some (vI a2), some (vI (a3 + z23)), some (vI a4), some (vI a5), some (vI a6), some (vI a7), some (vI a8), some (vI (fn_M_timeOf σ a1 a8)), some (vI (fn_M_timeOf σ a2 a8))] [vI (fn_M_amount σ ((fn_M_timeOf σ a1 a8) - (fn_M_timeOf σ a2 a8))), vI a4] σ post
        refine ev_goto (tgt := 93) d_M_tries_89 rfl ?_
        subst ez25
        exact Ev.wk (lsub_kp (lsub_kp (lsub_kp (lsub_kp (lsub_sk (lsub_kp (lsub_kp (lsub_kp (lsub_kp (lsub_kp (lsub_kp (lsub_nil)))))))))))) JJ
    clear K
    refine ev_icmp_ge (tgt := 66) d_M_tries_53 rfl (fun h37 => ?_) (fun h37 => ?_)
    · replace KS := KS.1 h37
      rw [if_pos h37] at ez23
      refine ev_iconst (v := 0) d_M_tries_66 (by decide) ?_
      subst ez23
      exact Ev.wk (lsub_kp (lsub_kp (lsub_kp (lsub_sk (lsub_kp (lsub_kp (lsub_kp (lsub_kp (lsub_kp (lsub_kp (lsub_kp (lsub_nil)))))))))))) JJ
    · replace KS := KS.2 h37
      rw [if_neg h37] at ez23
      have q22 := KS
      refine ev_aload_n d_M_tries_56 rfl rfl ?_
      refine ev_getR gf_M_28 rfl (by decide) d_M_tries_57 ?_
      refine ev_iload d_M_tries_60 rfl ?_
      refine ev_iald rfl (by decide) (by decide) q22 d_M_tries_62 ?_
      refine ev_goto (tgt := 67) d_M_tries_63 rfl ?_
      subst ez23
      exact Ev.wk (lsub_kp (lsub_kp (lsub_kp (lsub_sk (lsub_kp (lsub_kp (lsub_kp (lsub_kp (lsub_kp (lsub_kp (lsub_kp (lsub_nil)))))))))))) JJ
set_option maxRecDepth 4000 in
theorem sg_M_tries_269 {d : Nat} {σ : ST} {a9 : Int32} {post : Option AV → ST → Prop} (K : (((σ.1 11 0 8) ≤ a9) → (post none σ)) ∧ (¬ ((σ.1 11 0 8) ≤ a9) → ((vp_in a9 8) ∧ ((vp_in a9 8) ∧ (Ev none (d + 3) m_M_tries 269 [some (vR 11 0), none, none, none, none, none, none, none, none, some (vI (a9 + (1 : Int32))), none] [] (setI σ 57 0 (a9.toNatClampNeg) (σ.1 56 0 (a9.toNatClampNeg))) post))))) : Ev none (d + 3) m_M_tries 269 [some (vR 11 0), none, none, none, none, none, none, none, none, some (vI a9), none] [] σ post := by
  refine ev_iload d_M_tries_269 rfl ?_
  refine ev_aload_n d_M_tries_271 rfl rfl ?_
  refine ev_getI gf_M_113 rfl (by decide) d_M_tries_272 ?_
  refine ev_icmp_ge (tgt := 298) d_M_tries_275 rfl (fun h1 => ?_) (fun h1 => ?_)
  · replace K := K.1 h1
    exact ev_ret (r := none) d_M_tries_298 rfl rfl K
  · replace K := K.2 h1
    refine ev_aload_n d_M_tries_278 rfl rfl ?_
    refine ev_getR gf_M_55 rfl (by decide) d_M_tries_279 ?_
    refine ev_iload d_M_tries_282 rfl ?_
    refine ev_aload_n d_M_tries_284 rfl rfl ?_
    refine ev_getR gf_M_52 rfl (by decide) d_M_tries_285 ?_
    refine ev_iload d_M_tries_288 rfl ?_
    obtain ⟨q2, K⟩ := K
    refine ev_iald rfl (by decide) (by decide) q2 d_M_tries_290 ?_
    obtain ⟨q3, K⟩ := K
    refine ev_iast rfl (by decide) (by decide) q3 d_M_tries_291 ?_
    refine ev_iinc (v := a9 + (1 : Int32)) (L' := [some (vR 11 0), none, none, none, none, none, none, none, none, some (vI (a9 + (1 : Int32))), none]) d_M_tries_292 rfl (congrArg (a9 + ·) (by decide)) (by decide) rfl ?_
    refine ev_goto (tgt := 269) d_M_tries_295 rfl ?_
    exact K
set_option maxRecDepth 4000 in
theorem sg_M_write_0 {d : Nat} {σ : ST} {a1 : Int32} {a2 : Int32} {post : Option AV → ST → Prop} (K : ((fp_M_isReader σ a1) → (((fp_M_isSheet σ a2) → ((vp_in a2 4) ∧ (((0 ≤ (σ.1 42 0 (a2.toNatClampNeg))) → (Ev none (d + 2) m_M_reads 0 [some (vR 11 0), none] [] σ (fun r s5 => ∃ z6 : Int32, r = some (vI z6) ∧ ((vp_in a2 4) ∧ (((((s5.1 11 0 8) ≤ (s5.1 43 0 (a2.toNatClampNeg))) → True) ∧ (¬ ((s5.1 11 0 8) ≤ (s5.1 43 0 (a2.toNatClampNeg))) → (vp_in a2 4))) ∧ (∀ z9 : Int32, z9 = (if (s5.1 11 0 8) ≤ (s5.1 43 0 (a2.toNatClampNeg)) then (s5.1 11 0 8) else (s5.1 43 0 (a2.toNatClampNeg))) → (Ev none (d + 3) m_M_write 67 [some (vR 11 0), some (vI a1), some (vI a2), some (vI z9), some (vI (0 : Int32))] [] s5 post))))))) ∧ (¬ (0 ≤ (σ.1 42 0 (a2.toNatClampNeg))) → (Ev none (d + 2) m_M_met 0 [some (vR 11 0), some (vI (1 : Int32))] [] σ (fun r s11 => ∃ z12 : Int32, r = some (vI z12) ∧ (post (some (vI z12)) s11))))))) ∧ (¬ (fp_M_isSheet σ a2) → (post (some (vI (-2 : Int32))) σ)))) ∧ (¬ (fp_M_isReader σ a1) → (post (some (vI (-2 : Int32))) σ))) : Ev none (d + 3) m_M_write 0 [some (vR 11 0), some (vI a1), some (vI a2), none, none] [] σ post := by
  refine ev_iload_n d_M_write_0 rfl rfl ?_
  refine ev_callS (as := [vI a1]) (st := []) g_M_isReader ml_M_149 d_M_write_1 rfl rfl (Nat.le_of_ble_eq_true rfl) rfl (Nat.le_of_ble_eq_true rfl) ?_
  refine f_M_isReader  ?_
  show Ev none (d + 3) m_M_write 4 [some (vR 11 0), some (vI a1), some (vI a2), none, none] [vI (bi (fp_M_isReader σ a1))] σ post
  refine ev_ifb_eq (tgt := 14) d_M_write_4 rfl (fun h1 => ?_) (fun h1 => ?_)
  · replace K := K.2 h1
    refine ev_bipush (v := -2) d_M_write_14 (by decide) ?_
    exact ev_ret (r := some (vI (-2 : Int32))) d_M_write_16 rfl rfl K
  · replace K := K.1 h1
    refine ev_iload_n d_M_write_7 rfl rfl ?_
    refine ev_callS (as := [vI a2]) (st := []) g_M_isSheet ml_M_86 d_M_write_8 rfl rfl (Nat.le_of_ble_eq_true rfl) rfl (Nat.le_of_ble_eq_true rfl) ?_
    refine f_M_isSheet  ?_
    show Ev none (d + 3) m_M_write 11 [some (vR 11 0), some (vI a1), some (vI a2), none, none] [vI (bi (fp_M_isSheet σ a2))] σ post
    refine ev_ifb_ne (tgt := 17) d_M_write_11 rfl (fun h2 => ?_) (fun h2 => ?_)
    · replace K := K.1 h2
      refine ev_aload_n d_M_write_17 rfl rfl ?_
      refine ev_getR gf_M_7 rfl (by decide) d_M_write_18 ?_
      refine ev_iload_n d_M_write_21 rfl rfl ?_
      obtain ⟨q3, K⟩ := K
      refine ev_iald rfl (by decide) (by decide) q3 d_M_write_22 ?_
      refine ev_if_ge (tgt := 32) d_M_write_23 rfl (fun h4 => ?_) (fun h4 => ?_)
      · replace K := K.1 h4
        refine ev_aload_n d_M_write_32 rfl rfl ?_
        refine ev_callV (as := []) (st := []) (k := 11) (i := 0) g_M_reads ml_M_131 rfl rfl (by decide) (by decide) d_M_write_33 rfl rfl (Nat.le_of_ble_eq_true rfl) rfl (Nat.le_of_ble_eq_true rfl) ?_
        refine Ev.mono K ?_
        rintro _ s5 ⟨z6, rfl, K⟩
        show Ev none (d + 3) m_M_write 36 [some (vR 11 0), some (vI a1), some (vI a2), none, none] [vI z6] s5 post
        refine ev_pop d_M_write_36 rfl ?_
        refine ev_aload_n d_M_write_37 rfl rfl ?_
        refine ev_getR gf_M_13 rfl (by decide) d_M_write_38 ?_
        refine ev_iload_n d_M_write_41 rfl rfl ?_
        obtain ⟨q7, K⟩ := K
        refine ev_iald rfl (by decide) (by decide) q7 d_M_write_42 ?_
        refine ev_aload_n d_M_write_43 rfl rfl ?_
        refine ev_getI gf_M_113 rfl (by decide) d_M_write_44 ?_
        obtain ⟨KS, K⟩ := K
        obtain ⟨z9, ez9⟩ : ∃ z : Int32, z = (if (s5.1 11 0 8) ≤ (s5.1 43 0 (a2.toNatClampNeg)) then (s5.1 11 0 8) else (s5.1 43 0 (a2.toNatClampNeg))) := ⟨_, rfl⟩
        replace K := K z9 ez9
        have JJ : Ev none (d + 3) m_M_write 63 [some (vR 11 0), some (vI a1), some (vI a2), none, none] [vI z9] s5 post := by
          refine ev_istore_n (L' := [some (vR 11 0), some (vI a1), some (vI a2), some (vI z9), none]) d_M_write_63 rfl (by decide) rfl ?_
          refine ev_iconst (v := 0) d_M_write_64 (by decide) ?_
          refine ev_istore (L' := [some (vR 11 0), some (vI a1), some (vI a2), some (vI z9), some (vI (0 : Int32))]) d_M_write_65 (by decide) rfl ?_
          exact K
        clear K
        refine ev_icmp_ge (tgt := 59) d_M_write_47 rfl (fun h10 => ?_) (fun h10 => ?_)
        · replace KS := KS.1 h10
          rw [if_pos h10] at ez9
          refine ev_aload_n d_M_write_59 rfl rfl ?_
          refine ev_getI gf_M_113 rfl (by decide) d_M_write_60 ?_
          subst ez9
          exact JJ
        · replace KS := KS.2 h10
          rw [if_neg h10] at ez9
          have q8 := KS
          refine ev_aload_n d_M_write_50 rfl rfl ?_
          refine ev_getR gf_M_13 rfl (by decide) d_M_write_51 ?_
          refine ev_iload_n d_M_write_54 rfl rfl ?_
          refine ev_iald rfl (by decide) (by decide) q8 d_M_write_55 ?_
          refine ev_goto (tgt := 63) d_M_write_56 rfl ?_
          subst ez9
          exact JJ
      · replace K := K.2 h4
        refine ev_aload_n d_M_write_26 rfl rfl ?_
        refine ev_iconst (v := 1) d_M_write_27 (by decide) ?_
        refine ev_callV (as := [vI (1 : Int32)]) (st := []) (k := 11) (i := 0) g_M_met ml_M_92 rfl rfl (by decide) (by decide) d_M_write_28 rfl rfl (Nat.le_of_ble_eq_true rfl) rfl (Nat.le_of_ble_eq_true rfl) ?_
        refine Ev.mono K ?_
        rintro _ s11 ⟨z12, rfl, K⟩
        show Ev none (d + 3) m_M_write 31 [some (vR 11 0), some (vI a1), some (vI a2), none, none] [vI z12] s11 post
        exact ev_ret (r := some (vI z12)) d_M_write_31 rfl rfl K
    · replace K := K.2 h2
      refine ev_bipush (v := -2) d_M_write_14 (by decide) ?_
      exact ev_ret (r := some (vI (-2 : Int32))) d_M_write_16 rfl rfl K
set_option maxRecDepth 4000 in
theorem sg_M_write_67 {d : Nat} {σ : ST} {a1 : Int32} {a2 : Int32} {a3 : Int32} {a4 : Int32} {post : Option AV → ST → Prop} (K : ((a3 ≤ a4) → (post (some (vI a3)) σ)) ∧ (¬ (a3 ≤ a4) → ((vp_in a2 4) ∧ ((fs_M_timeOf σ a1 a4) ∧ ((vp_in (((60 : Int32) * a2) + a4) 240) ∧ (Ev none (d + 3) m_M_write 67 [some (vR 11 0), some (vI a1), some (vI a2), some (vI a3), some (vI (a4 + (1 : Int32)))] [] (setI σ 44 0 ((((60 : Int32) * a2) + a4).toNatClampNeg) (fn_M_cut σ (σ.1 42 0 (a2.toNatClampNeg)) (fn_M_timeOf σ a1 a4))) post)))))) : Ev none (d + 3) m_M_write 67 [some (vR 11 0), some (vI a1), some (vI a2), some (vI a3), some (vI a4)] [] σ post := by
  refine ev_iload d_M_write_67 rfl ?_
  refine ev_iload_n d_M_write_69 rfl rfl ?_
  refine ev_icmp_ge (tgt := 107) d_M_write_70 rfl (fun h1 => ?_) (fun h1 => ?_)
  · replace K := K.1 h1
    refine ev_iload_n d_M_write_107 rfl rfl ?_
    exact ev_ret (r := some (vI a3)) d_M_write_108 rfl rfl K
  · replace K := K.2 h1
    refine ev_aload_n d_M_write_73 rfl rfl ?_
    refine ev_getR gf_M_16 rfl (by decide) d_M_write_74 ?_
    refine ev_bipush (v := 60) d_M_write_77 (by decide) ?_
    refine ev_iload_n d_M_write_79 rfl rfl ?_
    refine ev_imul d_M_write_80 ?_
    refine ev_iload d_M_write_81 rfl ?_
    refine ev_iadd d_M_write_83 ?_
    refine ev_aload_n d_M_write_84 rfl rfl ?_
    refine ev_getR gf_M_7 rfl (by decide) d_M_write_85 ?_
    refine ev_iload_n d_M_write_88 rfl rfl ?_
    obtain ⟨q2, K⟩ := K
    refine ev_iald rfl (by decide) (by decide) q2 d_M_write_89 ?_
    refine ev_aload_n d_M_write_90 rfl rfl ?_
    refine ev_iload_n d_M_write_91 rfl rfl ?_
    refine ev_iload d_M_write_92 rfl ?_
    obtain ⟨q3, K⟩ := K
    refine ev_callV (as := [vI a1, vI a4]) (st := [vI (σ.1 42 0 (a2.toNatClampNeg)), vI (((60 : Int32) * a2) + a4), vR 44 0]) (k := 11) (i := 0) g_M_timeOf ml_M_176 rfl rfl (by decide) (by decide) d_M_write_94 rfl rfl (Nat.le_of_ble_eq_true rfl) rfl (Nat.le_of_ble_eq_true rfl) ?_
    refine f_M_timeOf q3 ?_
    show Ev none (d + 3) m_M_write 97 [some (vR 11 0), some (vI a1), some (vI a2), some (vI a3), some (vI a4)] [vI (fn_M_timeOf σ a1 a4), vI (σ.1 42 0 (a2.toNatClampNeg)), vI (((60 : Int32) * a2) + a4), vR 44 0] σ post
    refine ev_callS (as := [vI (σ.1 42 0 (a2.toNatClampNeg)), vI (fn_M_timeOf σ a1 a4)]) (st := [vI (((60 : Int32) * a2) + a4), vR 44 0]) g_M_cut ml_M_100 d_M_write_97 rfl rfl (Nat.le_of_ble_eq_true rfl) rfl (Nat.le_of_ble_eq_true rfl) ?_
    refine f_M_cut  ?_
    show Ev none (d + 3) m_M_write 100 [some (vR 11 0), some (vI a1), some (vI a2), some (vI a3), some (vI a4)] [vI (fn_M_cut σ (σ.1 42 0 (a2.toNatClampNeg)) (fn_M_timeOf σ a1 a4)), vI (((60 : Int32) * a2) + a4), vR 44 0] σ post
    obtain ⟨q4, K⟩ := K
    refine ev_iast rfl (by decide) (by decide) q4 d_M_write_100 ?_
    refine ev_iinc (v := a4 + (1 : Int32)) (L' := [some (vR 11 0), some (vI a1), some (vI a2), some (vI a3), some (vI (a4 + (1 : Int32)))]) d_M_write_101 rfl (congrArg (a4 + ·) (by decide)) (by decide) rfl ?_
    refine ev_goto (tgt := 67) d_M_write_104 rfl ?_
    exact K
set_option maxRecDepth 4000 in
theorem sg_M_chapter_0 {d : Nat} {σ : ST} {a1 : Int32} {a2 : Int32} {post : Option AV → ST → Prop} (K : Ev none (d + 3) m_M_isChapter 0 [some (vR 11 0), some (vI a1)] [] σ (fun r s1 => ∃ z2 : Int32, r = some (vI z2) ∧ ((((z2 = 0) ∨ (¬ (fp_M_in s1 (Int32.toInt64 a2) (0 : Int64) (2 : Int64)))) → (post (some (vI (-2 : Int32))) s1)) ∧ (¬ ((z2 = 0) ∨ (¬ (fp_M_in s1 (Int32.toInt64 a2) (0 : Int64) (2 : Int64)))) → ((fs_M_chapterOf s1 a1 a2) ∧ (post (some (vI (fn_M_chapterOf s1 a1 a2))) s1)))))) : Ev none (d + 4) m_M_chapter 0 [some (vR 11 0), some (vI a1), some (vI a2)] [] σ post := by
  refine ev_aload_n d_M_chapter_0 rfl rfl ?_
  refine ev_iload_n d_M_chapter_1 rfl rfl ?_
  refine ev_callV (as := [vI a1]) (st := []) (k := 11) (i := 0) g_M_isChapter ml_M_143 rfl rfl (by decide) (by decide) d_M_chapter_2 rfl rfl (Nat.le_of_ble_eq_true rfl) rfl (Nat.le_of_ble_eq_true rfl) ?_
  refine Ev.mono K ?_
  rintro _ s1 ⟨z2, rfl, K⟩
  show Ev none (d + 4) m_M_chapter 5 [some (vR 11 0), some (vI a1), some (vI a2)] [vI z2] s1 post
  obtain ⟨w3, e4⟩ : ∃ w : Int32, w = bi ((z2 = 0) ∨ (¬ (fp_M_in s1 (Int32.toInt64 a2) (0 : Int64) (2 : Int64)))) := ⟨_, rfl⟩
  have J1 : w3 = 1 → Ev none (d + 4) m_M_chapter 29 [some (vR 11 0), some (vI a1), some (vI a2)] [] s1 post := by
    intro e41
    replace K := K.1 (bi_1.mp ((e4.symm).trans e41))
    refine ev_bipush (v := -2) d_M_chapter_29 (by decide) ?_
    exact ev_ret (r := some (vI (-2 : Int32))) d_M_chapter_31 rfl rfl K
  have J0 : w3 = 0 → Ev none (d + 4) m_M_chapter 20 [some (vR 11 0), some (vI a1), some (vI a2)] [] s1 post := by
    intro e40
    replace K := K.2 (bi_0.mp ((e4.symm).trans e40))
    refine ev_aload_n d_M_chapter_20 rfl rfl ?_
    refine ev_iload_n d_M_chapter_21 rfl rfl ?_
    refine ev_iload_n d_M_chapter_22 rfl rfl ?_
    obtain ⟨q5, K⟩ := K
    refine ev_callV (as := [vI a1, vI a2]) (st := []) (k := 11) (i := 0) g_M_chapterOf ml_M_146 rfl rfl (by decide) (by decide) d_M_chapter_23 rfl rfl (Nat.le_of_ble_eq_true rfl) rfl (Nat.le_of_ble_eq_true rfl) ?_
    refine f_M_chapterOf q5 ?_
    show Ev none (d + 4) m_M_chapter 26 [some (vR 11 0), some (vI a1), some (vI a2)] [vI (fn_M_chapterOf s1 a1 a2)] s1 post
    refine ev_goto (tgt := 31) d_M_chapter_26 rfl ?_
    exact ev_ret (r := some (vI (fn_M_chapterOf s1 a1 a2))) d_M_chapter_31 rfl rfl K
  clear K
  refine ev_if_eq (tgt := 29) d_M_chapter_5 rfl (fun h6 => ?_) (fun h6 => ?_)
  · rw [b4t h6] at e4
    exact J1 e4
  · rw [b4f h6] at e4
    refine ev_iload_n d_M_chapter_8 rfl rfl ?_
    refine ev_i2l d_M_chapter_9 ?_
    refine ev_lconst (v := 0) d_M_chapter_10 (by decide) ?_
    refine ev_ldc2 d_M_chapter_11 cn_M_90 ?_
    refine ev_callS (as := [vJ (Int32.toInt64 a2), vJ (0 : Int64), vJ (2 : Int64)]) (st := []) g_M_in ml_M_76 d_M_chapter_14 rfl rfl (Nat.le_of_ble_eq_true rfl) rfl (Nat.le_of_ble_eq_true rfl) ?_
    refine f_M_in  ?_
    show Ev none (d + 4) m_M_chapter 17 [some (vR 11 0), some (vI a1), some (vI a2)] [vI (bi (fp_M_in s1 (Int32.toInt64 a2) (0 : Int64) (2 : Int64)))] s1 post
    refine ev_ifb_eq (tgt := 29) d_M_chapter_17 rfl (fun h7 => ?_) (fun h7 => ?_)
    · rw [bi_t h7] at e4
      exact J1 e4
    · rw [bi_f (not_not_intro h7)] at e4
      exact J0 e4
set_option maxRecDepth 4000 in
theorem sg_M_findBest_0 {d : Nat} {σ : ST} {a1 : Int32} {a2 : Int32} {post : Option AV → ST → Prop} (K : Ev none (d + 4) m_M_findBest 5 [some (vR 11 0), some (vI a1), some (vI a2), some (vI (1 : Int32)), some (vI (0 : Int32)), none, none, none] [] σ post) : Ev none (d + 4) m_M_findBest 0 [some (vR 11 0), some (vI a1), some (vI a2), none, none, none, none, none] [] σ post := by
  refine ev_iconst (v := 1) d_M_findBest_0 (by decide) ?_
  refine ev_istore_n (L' := [some (vR 11 0), some (vI a1), some (vI a2), some (vI (1 : Int32)), none, none, none, none]) d_M_findBest_1 rfl (by decide) rfl ?_
  refine ev_iconst (v := 0) d_M_findBest_2 (by decide) ?_
  refine ev_istore (L' := [some (vR 11 0), some (vI a1), some (vI a2), some (vI (1 : Int32)), some (vI (0 : Int32)), none, none, none]) d_M_findBest_3 (by decide) rfl ?_
  exact K
set_option maxRecDepth 4000 in
theorem sg_M_findBest_5 {d : Nat} {σ : ST} {a1 : Int32} {a2 : Int32} {a3 : Int32} {a4 : Int32} {post : Option AV → ST → Prop} (K : (((σ.1 11 0 8) ≤ a4) → (Ev none (d + 4) m_M_findBest 32 [some (vR 11 0), some (vI a1), some (vI a2), some (vI a3), some (vI (0 : Int32)), none, none, none] [] (setI σ 11 0 24 (-1 : Int32)) post)) ∧ (¬ ((σ.1 11 0 8) ≤ a4) → (Ev none (d + 4) m_M_findBest 5 [some (vR 11 0), some (vI a1), some (vI a2), some (vI (a3 * (3 : Int32))), some (vI (a4 + (1 : Int32))), none, none, none] [] σ post))) : Ev none (d + 4) m_M_findBest 5 [some (vR 11 0), some (vI a1), some (vI a2), some (vI a3), some (vI a4), none, none, none] [] σ post := by
  refine ev_iload d_M_findBest_5 rfl ?_
  refine ev_aload_n d_M_findBest_7 rfl rfl ?_
  refine ev_getI gf_M_113 rfl (by decide) d_M_findBest_8 ?_
  refine ev_icmp_ge (tgt := 24) d_M_findBest_11 rfl (fun h1 => ?_) (fun h1 => ?_)
  · replace K := K.1 h1
    refine ev_aload_n d_M_findBest_24 rfl rfl ?_
    refine ev_iconst (v := -1) d_M_findBest_25 (by decide) ?_
    refine ev_putI gp_M_211 rfl (by decide) d_M_findBest_26 ?_
    refine ev_iconst (v := 0) d_M_findBest_29 (by decide) ?_
    refine ev_istore (L' := [some (vR 11 0), some (vI a1), some (vI a2), some (vI a3), some (vI (0 : Int32)), none, none, none]) d_M_findBest_30 (by decide) rfl ?_
    exact K
  · replace K := K.2 h1
    refine ev_iload_n d_M_findBest_14 rfl rfl ?_
    refine ev_iconst (v := 3) d_M_findBest_15 (by decide) ?_
    refine ev_imul d_M_findBest_16 ?_
    refine ev_istore_n (L' := [some (vR 11 0), some (vI a1), some (vI a2), some (vI (a3 * (3 : Int32))), some (vI a4), none, none, none]) d_M_findBest_17 rfl (by decide) rfl ?_
    refine ev_iinc (v := a4 + (1 : Int32)) (L' := [some (vR 11 0), some (vI a1), some (vI a2), some (vI (a3 * (3 : Int32))), some (vI (a4 + (1 : Int32))), none, none, none]) d_M_findBest_18 rfl (congrArg (a4 + ·) (by decide)) (by decide) rfl ?_
    refine ev_goto (tgt := 5) d_M_findBest_21 rfl ?_
    exact K
set_option maxRecDepth 4000 in
theorem sg_M_findBest_32 {d : Nat} {σ : ST} {a1 : Int32} {a2 : Int32} {a3 : Int32} {a4 : Int32} {post : Option AV → ST → Prop} (K : ((a3 ≤ a4) → (post none σ)) ∧ (¬ (a3 ≤ a4) → (Ev none (d + 4) m_M_findBest 53 [some (vR 11 0), some (vI a1), some (vI a2), some (vI a3), some (vI a4), some (vI a4), some (vI (1 : Int32)), some (vI ((σ.1 11 0 8) - (1 : Int32)))] [] σ post))) : Ev none (d + 4) m_M_findBest 32 [some (vR 11 0), some (vI a1), some (vI a2), some (vI a3), some (vI a4), none, none, none] [] σ post := by
  refine ev_iload d_M_findBest_32 rfl ?_
  refine ev_iload_n d_M_findBest_34 rfl rfl ?_
  refine ev_icmp_ge (tgt := 130) d_M_findBest_35 rfl (fun h1 => ?_) (fun h1 => ?_)
  · replace K := K.1 h1
    exact ev_ret (r := none) d_M_findBest_130 rfl rfl K
  · replace K := K.2 h1
    refine ev_iload d_M_findBest_38 rfl ?_
    refine ev_istore (L' := [some (vR 11 0), some (vI a1), some (vI a2), some (vI a3), some (vI a4), some (vI a4), none, none]) d_M_findBest_40 (by decide) rfl ?_
    refine ev_iconst (v := 1) d_M_findBest_42 (by decide) ?_
    refine ev_istore (L' := [some (vR 11 0), some (vI a1), some (vI a2), some (vI a3), some (vI a4), some (vI a4), some (vI (1 : Int32)), none]) d_M_findBest_43 (by decide) rfl ?_
    refine ev_aload_n d_M_findBest_45 rfl rfl ?_
    refine ev_getI gf_M_113 rfl (by decide) d_M_findBest_46 ?_
    refine ev_iconst (v := 1) d_M_findBest_49 (by decide) ?_
    refine ev_isub d_M_findBest_50 ?_
    refine ev_istore (L' := [some (vR 11 0), some (vI a1), some (vI a2), some (vI a3), some (vI a4), some (vI a4), some (vI (1 : Int32)), some (vI ((σ.1 11 0 8) - (1 : Int32)))]) d_M_findBest_51 (by decide) rfl ?_
    exact K
set_option maxRecDepth 4000 in
theorem sg_M_findBest_53 {d : Nat} {σ : ST} {a1 : Int32} {a2 : Int32} {a3 : Int32} {a4 : Int32} {a5 : Int32} {a6 : Int32} {a7 : Int32} {post : Option AV → ST → Prop} (K : ((a7 < 0) → (((a6 = 0) → (Ev none (d + 4) m_M_findBest 32 [some (vR 11 0), some (vI a1), some (vI a2), some (vI a3), some (vI (a4 + (1 : Int32))), none, none, none] [] σ post)) ∧ (¬ (a6 = 0) → (Ev none (d + 3) m_M_tries 0 [some (vR 11 0), some (vI a1), some (vI a2), none, none, none, none, none, none, none, none] [] σ (fun r s4 => r = none ∧ (Ev none (d + 4) m_M_findBest 32 [some (vR 11 0), some (vI a1), some (vI a2), some (vI a3), some (vI (a4 + (1 : Int32))), none, none, none] [] s4 post)))))) ∧ (¬ (a7 < 0) → ((vp_in a7 8) ∧ ((((a6 = 0) → True) ∧ (¬ (a6 = 0) → (vp_in a7 8))) ∧ (∀ z7 : Int32, z7 = (bi (¬ (a6 = 0) ∧ ((((setI σ 56 0 (a7.toNatClampNeg) (irm a5 (3 : Int32))).1 56 0 (a7.toNatClampNeg)) = (2 : Int32)) ∨ (fp_M_isRead (setI σ 56 0 (a7.toNatClampNeg) (irm a5 (3 : Int32))) a7)))) → (Ev none (d + 4) m_M_findBest 53 [some (vR 11 0), some (vI a1), some (vI a2), some (vI a3), some (vI a4), some (vI (a5 / (3 : Int32))), some (vI z7), some (vI (a7 + (-1 : Int32)))] [] (setI σ 56 0 (a7.toNatClampNeg) (irm a5 (3 : Int32))) post)))))) : Ev none (d + 4) m_M_findBest 53 [some (vR 11 0), some (vI a1), some (vI a2), some (vI a3), some (vI a4), some (vI a5), some (vI a6), some (vI a7)] [] σ post := by
  refine ev_iload d_M_findBest_53 rfl ?_
  refine ev_if_lt (tgt := 113) d_M_findBest_55 rfl (fun h2 => ?_) (fun h2 => ?_)
  · replace K := K.1 h2
    refine ev_iload d_M_findBest_113 rfl ?_
    refine ev_if_eq (tgt := 124) d_M_findBest_115 rfl (fun h3 => ?_) (fun h3 => ?_)
    · replace K := K.1 h3
      refine ev_iinc (v := a4 + (1 : Int32)) (L' := [some (vR 11 0), some (vI a1), some (vI a2), some (vI a3), some (vI (a4 + (1 : Int32))), some (vI a5), some (vI a6), some (vI a7)]) d_M_findBest_124 rfl (congrArg (a4 + ·) (by decide)) (by decide) rfl ?_
      refine ev_goto (tgt := 32) d_M_findBest_127 rfl ?_
      exact Ev.wk (lsub_kp (lsub_kp (lsub_kp (lsub_kp (lsub_kp (lsub_sk (lsub_sk (lsub_sk (lsub_nil))))))))) K
    · replace K := K.2 h3
      refine ev_aload_n d_M_findBest_118 rfl rfl ?_
      refine ev_iload_n d_M_findBest_119 rfl rfl ?_
      refine ev_iload_n d_M_findBest_120 rfl rfl ?_
      refine ev_callV (as := [vI a1, vI a2]) (st := []) (k := 11) (i := 0) g_M_tries ml_M_220 rfl rfl (by decide) (by decide) d_M_findBest_121 rfl rfl (Nat.le_of_ble_eq_true rfl) rfl (Nat.le_of_ble_eq_true rfl) ?_
      refine Ev.mono K ?_
      rintro _ s4 ⟨rfl, K⟩
      show Ev none (d + 4) m_M_findBest 124 [some (vR 11 0), some (vI a1), some (vI a2), some (vI a3), some (vI a4), some (vI a5), some (vI a6), some (vI a7)] [] s4 post
      refine ev_iinc (v := a4 + (1 : Int32)) (L' := [some (vR 11 0), some (vI a1), some (vI a2), some (vI a3), some (vI (a4 + (1 : Int32))), some (vI a5), some (vI a6), some (vI a7)]) d_M_findBest_124 rfl (congrArg (a4 + ·) (by decide)) (by decide) rfl ?_
      refine ev_goto (tgt := 32) d_M_findBest_127 rfl ?_
      exact Ev.wk (lsub_kp (lsub_kp (lsub_kp (lsub_kp (lsub_kp (lsub_sk (lsub_sk (lsub_sk (lsub_nil))))))))) K
  · replace K := K.2 h2
    refine ev_aload_n d_M_findBest_58 rfl rfl ?_
    refine ev_getR gf_M_52 rfl (by decide) d_M_findBest_59 ?_
    refine ev_iload d_M_findBest_62 rfl ?_
    refine ev_iload d_M_findBest_64 rfl ?_
    refine ev_iconst (v := 3) d_M_findBest_66 (by decide) ?_
    refine ev_irem d_M_findBest_67 (by decide) ?_
    obtain ⟨q5, K⟩ := K
    refine ev_iast rfl (by decide) (by decide) q5 d_M_findBest_68 ?_
    refine ev_iload d_M_findBest_69 rfl ?_
    refine ev_iconst (v := 3) d_M_findBest_71 (by decide) ?_
    refine ev_idiv d_M_findBest_72 (by decide) ?_
    refine ev_istore (L' := [some (vR 11 0), some (vI a1), some (vI a2), some (vI a3), some (vI a4), some (vI (a5 / (3 : Int32))), some (vI a6), some (vI a7)]) d_M_findBest_73 (by decide) rfl ?_
    refine ev_iload d_M_findBest_75 rfl ?_
    obtain ⟨KS, K⟩ := K
    obtain ⟨z7, ez7⟩ : ∃ z : Int32, z = (bi (¬ (a6 = 0) ∧ ((((setI σ 56 0 (a7.toNatClampNeg) (irm a5 (3 : Int32))).1 56 0 (a7.toNatClampNeg)) = (2 : Int32)) ∨ (fp_M_isRead (setI σ 56 0 (a7.toNatClampNeg) (irm a5 (3 : Int32))) a7)))) := ⟨_, rfl⟩
    replace K := K z7 ez7
    have JJ : Ev none (d + 4) m_M_findBest 105 [some (vR 11 0), some (vI a1), some (vI a2), some (vI a3), some (vI a4), some (vI (a5 / (3 : Int32))), none, some (vI a7)] [vI z7] (setI σ 56 0 (a7.toNatClampNeg) (irm a5 (3 : Int32))) post := by
      refine ev_istore (L' := [some (vR 11 0), some (vI a1), some (vI a2), some (vI a3), some (vI a4), some (vI (a5 / (3 : Int32))), some (vI z7), some (vI a7)]) d_M_findBest_105 (by decide) rfl ?_
      refine ev_iinc (v := a7 + (-1 : Int32)) (L' := [some (vR 11 0), some (vI a1), some (vI a2), some (vI a3), some (vI a4), some (vI (a5 / (3 : Int32))), some (vI z7), some (vI (a7 + (-1 : Int32)))]) d_M_findBest_107 rfl (congrArg (a7 + ·) (by decide)) (by decide) rfl ?_
      refine ev_goto (tgt := 53) d_M_findBest_110 rfl ?_
      exact K
    clear K
    refine ev_if_eq (tgt := 104) d_M_findBest_77 rfl (fun h8 => ?_) (fun h8 => ?_)
    · replace KS := KS.1 h8
      rw [b5t h8] at ez7
      refine ev_iconst (v := 0) d_M_findBest_104 (by decide) ?_
      subst ez7
      exact Ev.wk (lsub_kp (lsub_kp (lsub_kp (lsub_kp (lsub_kp (lsub_kp (lsub_sk (lsub_kp (lsub_nil))))))))) JJ
    · replace KS := KS.2 h8
      rw [b5f h8] at ez7
      have q6 := KS
      refine ev_aload_n d_M_findBest_80 rfl rfl ?_
      refine ev_getR gf_M_52 rfl (by decide) d_M_findBest_81 ?_
      refine ev_iload d_M_findBest_84 rfl ?_
      refine ev_iald rfl (by decide) (by decide) q6 d_M_findBest_86 ?_
      refine ev_iconst (v := 2) d_M_findBest_87 (by decide) ?_
      refine ev_icmp_eq (tgt := 100) d_M_findBest_88 rfl (fun h9 => ?_) (fun h9 => ?_)
      · rw [b4t h9] at ez7
        refine ev_iconst (v := 1) d_M_findBest_100 (by decide) ?_
        refine ev_goto (tgt := 105) d_M_findBest_101 rfl ?_
        subst ez7
        exact Ev.wk (lsub_kp (lsub_kp (lsub_kp (lsub_kp (lsub_kp (lsub_kp (lsub_sk (lsub_kp (lsub_nil))))))))) JJ
      · rw [b4f h9] at ez7
        refine ev_aload_n d_M_findBest_91 rfl rfl ?_
        refine ev_iload d_M_findBest_92 rfl ?_
        refine ev_callV (as := [vI a7]) (st := []) (k := 11) (i := 0) g_M_isRead ml_M_188 rfl rfl (by decide) (by decide) d_M_findBest_94 rfl rfl (Nat.le_of_ble_eq_true rfl) rfl (Nat.le_of_ble_eq_true rfl) ?_
        refine f_M_isRead  ?_
        show Ev none (d + 4) m_M_findBest 97 [some (vR 11 0), some (vI a1), some (vI a2), some (vI a3), some (vI a4), some (vI (a5 / (3 : Int32))), some (vI a6), some (vI a7)] [vI (bi (fp_M_isRead (setI σ 56 0 (a7.toNatClampNeg) (irm a5 (3 : Int32))) a7))] (setI σ 56 0 (a7.toNatClampNeg) (irm a5 (3 : Int32))) post
        refine ev_ifb_eq (tgt := 104) d_M_findBest_97 rfl (fun h10 => ?_) (fun h10 => ?_)
        · rw [bi_f h10] at ez7
          refine ev_iconst (v := 0) d_M_findBest_104 (by decide) ?_
          subst ez7
          exact Ev.wk (lsub_kp (lsub_kp (lsub_kp (lsub_kp (lsub_kp (lsub_kp (lsub_sk (lsub_kp (lsub_nil))))))))) JJ
        · rw [bi_t h10] at ez7
          refine ev_iconst (v := 1) d_M_findBest_100 (by decide) ?_
          refine ev_goto (tgt := 105) d_M_findBest_101 rfl ?_
          subst ez7
          exact Ev.wk (lsub_kp (lsub_kp (lsub_kp (lsub_kp (lsub_kp (lsub_kp (lsub_sk (lsub_kp (lsub_nil))))))))) JJ
set_option maxRecDepth 4000 in
theorem sg_M_findEvening_0 {d : Nat} {σ : ST} {a1 : Int32} {a2 : Int32} {post : Option AV → ST → Prop} (K : Ev none (d + 4) m_M_findEvening 17 [some (vR 11 0), some (vI a1), some (vI a2), some (vI (0 : Int32)), none, none] [] (setI (setI (setI σ 11 0 18 (0 : Int32)) 11 0 19 (0 : Int32)) 11 0 20 (-1 : Int32)) post) : Ev none (d + 4) m_M_findEvening 0 [some (vR 11 0), some (vI a1), some (vI a2), none, none, none] [] σ post := by
  refine ev_aload_n d_M_findEvening_0 rfl rfl ?_
  refine ev_iconst (v := 0) d_M_findEvening_1 (by decide) ?_
  refine ev_putI gp_M_179 rfl (by decide) d_M_findEvening_2 ?_
  refine ev_aload_n d_M_findEvening_5 rfl rfl ?_
  refine ev_iconst (v := 0) d_M_findEvening_6 (by decide) ?_
  refine ev_putI gp_M_182 rfl (by decide) d_M_findEvening_7 ?_
  refine ev_aload_n d_M_findEvening_10 rfl rfl ?_
  refine ev_iconst (v := -1) d_M_findEvening_11 (by decide) ?_
  refine ev_putI gp_M_185 rfl (by decide) d_M_findEvening_12 ?_
  refine ev_iconst (v := 0) d_M_findEvening_15 (by decide) ?_
  refine ev_istore_n (L' := [some (vR 11 0), some (vI a1), some (vI a2), some (vI (0 : Int32)), none, none]) d_M_findEvening_16 rfl (by decide) rfl ?_
  exact K
set_option maxRecDepth 4000 in
theorem sg_M_findEvening_17 {d : Nat} {σ : ST} {a1 : Int32} {a2 : Int32} {a3 : Int32} {post : Option AV → ST → Prop} (K : (((6 : Int32) ≤ a3) → (Ev none (d + 4) m_M_findEvening 38 [some (vR 11 0), some (vI a1), none, some (vI a2), none, none] [] σ post)) ∧ (¬ ((6 : Int32) ≤ a3) → ((vp_in a3 6) ∧ (Ev none (d + 4) m_M_findEvening 17 [some (vR 11 0), some (vI a1), some (vI a2), some (vI (a3 + (1 : Int32))), none, none] [] (setI σ 55 0 (a3.toNatClampNeg) (0 : Int32)) post)))) : Ev none (d + 4) m_M_findEvening 17 [some (vR 11 0), some (vI a1), some (vI a2), some (vI a3), none, none] [] σ post := by
  refine ev_iload_n d_M_findEvening_17 rfl rfl ?_
  refine ev_bipush (v := 6) d_M_findEvening_18 (by decide) ?_
  refine ev_icmp_ge (tgt := 36) d_M_findEvening_20 rfl (fun h2 => ?_) (fun h2 => ?_)
  · replace K := K.1 h2
    refine ev_iload_n d_M_findEvening_36 rfl rfl ?_
    refine ev_istore_n (L' := [some (vR 11 0), some (vI a1), some (vI a2), some (vI a2), none, none]) d_M_findEvening_37 rfl (by decide) rfl ?_
    exact Ev.wk (lsub_kp (lsub_kp (lsub_sk (lsub_kp (lsub_sk (lsub_sk (lsub_nil))))))) K
  · replace K := K.2 h2
    refine ev_aload_n d_M_findEvening_23 rfl rfl ?_
    refine ev_getR gf_M_49 rfl (by decide) d_M_findEvening_24 ?_
    refine ev_iload_n d_M_findEvening_27 rfl rfl ?_
    refine ev_iconst (v := 0) d_M_findEvening_28 (by decide) ?_
    obtain ⟨q3, K⟩ := K
    refine ev_iast rfl (by decide) (by decide) q3 d_M_findEvening_29 ?_
    refine ev_iinc (v := a3 + (1 : Int32)) (L' := [some (vR 11 0), some (vI a1), some (vI a2), some (vI (a3 + (1 : Int32))), none, none]) d_M_findEvening_30 rfl (congrArg (a3 + ·) (by decide)) (by decide) rfl ?_
    refine ev_goto (tgt := 17) d_M_findEvening_33 rfl ?_
    exact K
set_option maxRecDepth 4000 in
theorem sg_M_findEvening_38 {d : Nat} {σ : ST} {a1 : Int32} {a3 : Int32} {post : Option AV → ST → Prop} (K : (((σ.1 11 0 8) ≤ a3) → (post none σ)) ∧ (¬ ((σ.1 11 0 8) ≤ a3) → ((((σ.1 11 0 20) = (-1 : Int32)) → (((fp_M_isRead σ a3) → (Ev none (d + 3) m_M_together 0 [some (vR 11 0), some (vI a1), some (vI a3), none, none, none] [] σ (fun r s4 => ∃ z5 : Int32, r = some (vI z5) ∧ (((((s4.1 11 0 19) + z5) ≤ (s4.1 54 0 ((0 : Int32).toNatClampNeg))) → (Ev none (d + 4) m_M_findEvening 118 [some (vR 11 0), some (vI a1), none, some (vI a3), some (vI z5), some (vI (0 : Int32))] [] (setI (setI s4 11 0 18 ((s4.1 11 0 18) + (1 : Int32))) 11 0 19 (((setI s4 11 0 18 ((s4.1 11 0 18) + (1 : Int32))).1 11 0 19) + z5)) post)) ∧ (¬ (((s4.1 11 0 19) + z5) ≤ (s4.1 54 0 ((0 : Int32).toNatClampNeg))) → (Ev none (d + 4) m_M_findEvening 38 [some (vR 11 0), some (vI a1), none, some (vI (a3 + (1 : Int32))), none, none] [] (setI s4 11 0 20 a3) post)))))) ∧ (¬ (fp_M_isRead σ a3) → (Ev none (d + 4) m_M_findEvening 38 [some (vR 11 0), some (vI a1), none, some (vI (a3 + (1 : Int32))), none, none] [] σ post)))) ∧ (¬ ((σ.1 11 0 20) = (-1 : Int32)) → (post none σ))))) : Ev none (d + 4) m_M_findEvening 38 [some (vR 11 0), some (vI a1), none, some (vI a3), none, none] [] σ post := by
  refine ev_iload_n d_M_findEvening_38 rfl rfl ?_
  refine ev_aload_n d_M_findEvening_39 rfl rfl ?_
  refine ev_getI gf_M_113 rfl (by decide) d_M_findEvening_40 ?_
  refine ev_icmp_ge (tgt := 157) d_M_findEvening_43 rfl (fun h1 => ?_) (fun h1 => ?_)
  · replace K := K.1 h1
    exact ev_ret (r := none) d_M_findEvening_157 rfl rfl K
  · replace K := K.2 h1
    refine ev_aload_n d_M_findEvening_46 rfl rfl ?_
    refine ev_getI gf_M_185 rfl (by decide) d_M_findEvening_47 ?_
    refine ev_iconst (v := -1) d_M_findEvening_50 (by decide) ?_
    refine ev_icmp_ne (tgt := 157) d_M_findEvening_51 rfl (fun h2 => ?_) (fun h2 => ?_)
    · replace K := K.2 h2
      exact ev_ret (r := none) d_M_findEvening_157 rfl rfl K
    · replace K := K.1 h2
      refine ev_aload_n d_M_findEvening_54 rfl rfl ?_
      refine ev_iload_n d_M_findEvening_55 rfl rfl ?_
      refine ev_callV (as := [vI a3]) (st := []) (k := 11) (i := 0) g_M_isRead ml_M_188 rfl rfl (by decide) (by decide) d_M_findEvening_56 rfl rfl (Nat.le_of_ble_eq_true rfl) rfl (Nat.le_of_ble_eq_true rfl) ?_
      refine f_M_isRead  ?_
      show Ev none (d + 4) m_M_findEvening 59 [some (vR 11 0), some (vI a1), none, some (vI a3), none, none] [vI (bi (fp_M_isRead σ a3))] σ post
      refine ev_ifb_eq (tgt := 151) d_M_findEvening_59 rfl (fun h3 => ?_) (fun h3 => ?_)
      · replace K := K.2 h3
        refine ev_iinc (v := a3 + (1 : Int32)) (L' := [some (vR 11 0), some (vI a1), none, some (vI (a3 + (1 : Int32))), none, none]) d_M_findEvening_151 rfl (congrArg (a3 + ·) (by decide)) (by decide) rfl ?_
        refine ev_goto (tgt := 38) d_M_findEvening_154 rfl ?_
        exact K
      · replace K := K.1 h3
        refine ev_aload_n d_M_findEvening_62 rfl rfl ?_
        refine ev_iload_n d_M_findEvening_63 rfl rfl ?_
        refine ev_iload_n d_M_findEvening_64 rfl rfl ?_
        refine ev_callV (as := [vI a1, vI a3]) (st := []) (k := 11) (i := 0) g_M_together ml_M_191 rfl rfl (by decide) (by decide) d_M_findEvening_65 rfl rfl (Nat.le_of_ble_eq_true rfl) rfl (Nat.le_of_ble_eq_true rfl) ?_
        refine Ev.mono K ?_
        rintro _ s4 ⟨z5, rfl, K⟩
        show Ev none (d + 4) m_M_findEvening 68 [some (vR 11 0), some (vI a1), none, some (vI a3), none, none] [vI z5] s4 post
        refine ev_istore (L' := [some (vR 11 0), some (vI a1), none, some (vI a3), some (vI z5), none]) d_M_findEvening_68 (by decide) rfl ?_
        refine ev_aload_n d_M_findEvening_70 rfl rfl ?_
        refine ev_getI gf_M_182 rfl (by decide) d_M_findEvening_71 ?_
        refine ev_iload d_M_findEvening_74 rfl ?_
        refine ev_iadd d_M_findEvening_76 ?_
        refine ev_aload_n d_M_findEvening_77 rfl rfl ?_
        refine ev_getR gf_M_46 rfl (by decide) d_M_findEvening_78 ?_
        refine ev_iconst (v := 0) d_M_findEvening_81 (by decide) ?_
        refine ev_iald rfl (by decide) (by decide) (by unfold vp_in; decide) d_M_findEvening_82 ?_
        refine ev_icmp_le (tgt := 94) d_M_findEvening_83 rfl (fun h6 => ?_) (fun h6 => ?_)
        · replace K := K.1 h6
          refine ev_aload_n d_M_findEvening_94 rfl rfl ?_
          refine ev_dup d_M_findEvening_95 rfl ?_
          refine ev_getI gf_M_179 rfl (by decide) d_M_findEvening_96 ?_
          refine ev_iconst (v := 1) d_M_findEvening_99 (by decide) ?_
          refine ev_iadd d_M_findEvening_100 ?_
          refine ev_putI gp_M_179 rfl (by decide) d_M_findEvening_101 ?_
          refine ev_aload_n d_M_findEvening_104 rfl rfl ?_
          refine ev_dup d_M_findEvening_105 rfl ?_
          refine ev_getI gf_M_182 rfl (by decide) d_M_findEvening_106 ?_
          refine ev_iload d_M_findEvening_109 rfl ?_
          refine ev_iadd d_M_findEvening_111 ?_
          refine ev_putI gp_M_182 rfl (by decide) d_M_findEvening_112 ?_
          refine ev_iconst (v := 0) d_M_findEvening_115 (by decide) ?_
          refine ev_istore (L' := [some (vR 11 0), some (vI a1), none, some (vI a3), some (vI z5), some (vI (0 : Int32))]) d_M_findEvening_116 (by decide) rfl ?_
          exact K
        · replace K := K.2 h6
          refine ev_aload_n d_M_findEvening_86 rfl rfl ?_
          refine ev_iload_n d_M_findEvening_87 rfl rfl ?_
          refine ev_putI gp_M_185 rfl (by decide) d_M_findEvening_88 ?_
          refine ev_goto (tgt := 151) d_M_findEvening_91 rfl ?_
          refine ev_iinc (v := a3 + (1 : Int32)) (L' := [some (vR 11 0), some (vI a1), none, some (vI (a3 + (1 : Int32))), some (vI z5), none]) d_M_findEvening_151 rfl (congrArg (a3 + ·) (by decide)) (by decide) rfl ?_
          refine ev_goto (tgt := 38) d_M_findEvening_154 rfl ?_
          exact Ev.wk (lsub_kp (lsub_kp (lsub_sk (lsub_kp (lsub_sk (lsub_sk (lsub_nil))))))) K
set_option maxRecDepth 4000 in
theorem sg_M_findEvening_118 {d : Nat} {σ : ST} {a1 : Int32} {a3 : Int32} {a4 : Int32} {a5 : Int32} {post : Option AV → ST → Prop} (K : (((6 : Int32) ≤ a5) → (Ev none (d + 4) m_M_findEvening 38 [some (vR 11 0), some (vI a1), none, some (vI (a3 + (1 : Int32))), none, none] [] σ post)) ∧ (¬ ((6 : Int32) ≤ a5) → ((vp_in a5 6) ∧ ((fs_M_timeOf σ a5 a3) ∧ ((vp_in a5 6) ∧ (Ev none (d + 4) m_M_findEvening 118 [some (vR 11 0), some (vI a1), none, some (vI a3), some (vI a4), some (vI (a5 + (1 : Int32)))] [] (setI σ 55 0 (a5.toNatClampNeg) ((σ.1 55 0 (a5.toNatClampNeg)) + (a4 - (fn_M_timeOf σ a5 a3)))) post)))))) : Ev none (d + 4) m_M_findEvening 118 [some (vR 11 0), some (vI a1), none, some (vI a3), some (vI a4), some (vI a5)] [] σ post := by
  refine ev_iload d_M_findEvening_118 rfl ?_
  refine ev_bipush (v := 6) d_M_findEvening_120 (by decide) ?_
  refine ev_icmp_ge (tgt := 151) d_M_findEvening_122 rfl (fun h4 => ?_) (fun h4 => ?_)
  · replace K := K.1 h4
    refine ev_iinc (v := a3 + (1 : Int32)) (L' := [some (vR 11 0), some (vI a1), none, some (vI (a3 + (1 : Int32))), some (vI a4), some (vI a5)]) d_M_findEvening_151 rfl (congrArg (a3 + ·) (by decide)) (by decide) rfl ?_
    refine ev_goto (tgt := 38) d_M_findEvening_154 rfl ?_
    exact Ev.wk (lsub_kp (lsub_kp (lsub_sk (lsub_kp (lsub_sk (lsub_sk (lsub_nil))))))) K
  · replace K := K.2 h4
    refine ev_aload_n d_M_findEvening_125 rfl rfl ?_
    refine ev_getR gf_M_49 rfl (by decide) d_M_findEvening_126 ?_
    refine ev_iload d_M_findEvening_129 rfl ?_
    refine ev_dup2 d_M_findEvening_131 rfl rfl ?_
    obtain ⟨q5, K⟩ := K
    refine ev_iald rfl (by decide) (by decide) q5 d_M_findEvening_132 ?_
    refine ev_iload d_M_findEvening_133 rfl ?_
    refine ev_aload_n d_M_findEvening_135 rfl rfl ?_
    refine ev_iload d_M_findEvening_136 rfl ?_
    refine ev_iload_n d_M_findEvening_138 rfl rfl ?_
    obtain ⟨q6, K⟩ := K
    refine ev_callV (as := [vI a5, vI a3]) (st := [vI a4, vI (σ.1 55 0 (a5.toNatClampNeg)), vI a5, vR 55 0]) (k := 11) (i := 0) g_M_timeOf ml_M_176 rfl rfl (by decide) (by decide) d_M_findEvening_139 rfl rfl (Nat.le_of_ble_eq_true rfl) rfl (Nat.le_of_ble_eq_true rfl) ?_
    refine f_M_timeOf q6 ?_
    show Ev none (d + 4) m_M_findEvening 142 [some (vR 11 0), some (vI a1), none, some (vI a3), some (vI a4), some (vI a5)] [vI (fn_M_timeOf σ a5 a3), vI a4, vI (σ.1 55 0 (a5.toNatClampNeg)), vI a5, vR 55 0] σ post
    refine ev_isub d_M_findEvening_142 ?_
    refine ev_iadd d_M_findEvening_143 ?_
    obtain ⟨q7, K⟩ := K
    refine ev_iast rfl (by decide) (by decide) q7 d_M_findEvening_144 ?_
    refine ev_iinc (v := a5 + (1 : Int32)) (L' := [some (vR 11 0), some (vI a1), none, some (vI a3), some (vI a4), some (vI (a5 + (1 : Int32)))]) d_M_findEvening_145 rfl (congrArg (a5 + ·) (by decide)) (by decide) rfl ?_
    refine ev_goto (tgt := 118) d_M_findEvening_148 rfl ?_
    exact K
set_option maxRecDepth 4000 in
theorem sg_M_findMinutes_0 {d : Nat} {σ : ST} {a1 : Int32} {post : Option AV → ST → Prop} (K : Ev none (d + 4) m_M_findMinutes 2 [some (vR 11 0), some (vI a1), some (vI (0 : Int32)), none, none, none, none, none] [] σ post) : Ev none (d + 4) m_M_findMinutes 0 [some (vR 11 0), some (vI a1), none, none, none, none, none, none] [] σ post := by
  refine ev_iconst (v := 0) d_M_findMinutes_0 (by decide) ?_
  refine ev_istore_n (L' := [some (vR 11 0), some (vI a1), some (vI (0 : Int32)), none, none, none, none, none]) d_M_findMinutes_1 rfl (by decide) rfl ?_
  exact K
set_option maxRecDepth 4000 in
theorem sg_M_findMinutes_2 {d : Nat} {σ : ST} {a1 : Int32} {a2 : Int32} {post : Option AV → ST → Prop} (K : (((3200 : Int32) ≤ a2) → (Ev none (d + 4) m_M_findMinutes 37 [some (vR 11 0), some (vI a1), some (vI (0 : Int32)), none, none, none, none, none] [] (setJ σ 11 0 33 (1 : Int64)) post)) ∧ (¬ ((3200 : Int32) ≤ a2) → (∀ z3 : Int64, z3 = (if a2 = 0 then (1 : Int64) else (0 : Int64)) → ((vp_in a2 3200) ∧ (Ev none (d + 4) m_M_findMinutes 2 [some (vR 11 0), some (vI a1), some (vI (a2 + (1 : Int32))), none, none, none, none, none] [] (setJ σ 61 0 (a2.toNatClampNeg) z3) post))))) : Ev none (d + 4) m_M_findMinutes 2 [some (vR 11 0), some (vI a1), some (vI a2), none, none, none, none, none] [] σ post := by
  refine ev_iload_n d_M_findMinutes_2 rfl rfl ?_
  refine ev_sipush (v := 3200) d_M_findMinutes_3 (by decide) ?_
  refine ev_icmp_ge (tgt := 30) d_M_findMinutes_6 rfl (fun h2 => ?_) (fun h2 => ?_)
  · replace K := K.1 h2
    refine ev_aload_n d_M_findMinutes_30 rfl rfl ?_
    refine ev_lconst (v := 1) d_M_findMinutes_31 (by decide) ?_
    refine ev_putJ gp_M_270 rfl (by decide) d_M_findMinutes_32 ?_
    refine ev_iconst (v := 0) d_M_findMinutes_35 (by decide) ?_
    refine ev_istore_n (L' := [some (vR 11 0), some (vI a1), some (vI (0 : Int32)), none, none, none, none, none]) d_M_findMinutes_36 rfl (by decide) rfl ?_
    exact K
  · replace K := K.2 h2
    refine ev_aload_n d_M_findMinutes_9 rfl rfl ?_
    refine ev_getR gf_M_67 rfl (by decide) d_M_findMinutes_10 ?_
    refine ev_iload_n d_M_findMinutes_13 rfl rfl ?_
    refine ev_iload_n d_M_findMinutes_14 rfl rfl ?_
    obtain ⟨z3, ez3⟩ : ∃ z : Int64, z = (if a2 = 0 then (1 : Int64) else (0 : Int64)) := ⟨_, rfl⟩
    replace K := K z3 ez3
    have JJ : Ev none (d + 4) m_M_findMinutes 23 [some (vR 11 0), some (vI a1), some (vI a2), none, none, none, none, none] [vJ z3, vI a2, vR 61 0] σ post := by
      obtain ⟨q4, K⟩ := K
      refine ev_last rfl (by decide) (by decide) q4 d_M_findMinutes_23 ?_
      refine ev_iinc (v := a2 + (1 : Int32)) (L' := [some (vR 11 0), some (vI a1), some (vI (a2 + (1 : Int32))), none, none, none, none, none]) d_M_findMinutes_24 rfl (congrArg (a2 + ·) (by decide)) (by decide) rfl ?_
      refine ev_goto (tgt := 2) d_M_findMinutes_27 rfl ?_
      exact K
    clear K
    refine ev_if_ne (tgt := 22) d_M_findMinutes_15 rfl (fun h5 => ?_) (fun h5 => ?_)
    · rw [if_neg h5] at ez3
      refine ev_lconst (v := 0) d_M_findMinutes_22 (by decide) ?_
      subst ez3
      exact JJ
    · rw [if_pos h5] at ez3
      refine ev_lconst (v := 1) d_M_findMinutes_18 (by decide) ?_
      refine ev_goto (tgt := 23) d_M_findMinutes_19 rfl ?_
      subst ez3
      exact JJ
set_option maxRecDepth 4000 in
theorem sg_M_findMinutes_37 {d : Nat} {σ : ST} {a1 : Int32} {a2 : Int32} {post : Option AV → ST → Prop} (K : (((σ.1 11 0 8) ≤ a2) → (post none σ)) ∧ (¬ ((σ.1 11 0 8) ≤ a2) → (((fp_M_isRead σ a2) → (Ev none (d + 4) m_M_findMinutes 55 [some (vR 11 0), some (vI a1), some (vI a2), some (vI (0 : Int32)), none, none, none, none] [] σ post)) ∧ (¬ (fp_M_isRead σ a2) → (Ev none (d + 4) m_M_findMinutes 37 [some (vR 11 0), some (vI a1), some (vI (a2 + (1 : Int32))), none, none, none, none, none] [] σ post))))) : Ev none (d + 4) m_M_findMinutes 37 [some (vR 11 0), some (vI a1), some (vI a2), none, none, none, none, none] [] σ post := by
  refine ev_iload_n d_M_findMinutes_37 rfl rfl ?_
  refine ev_aload_n d_M_findMinutes_38 rfl rfl ?_
  refine ev_getI gf_M_113 rfl (by decide) d_M_findMinutes_39 ?_
  refine ev_icmp_ge (tgt := 216) d_M_findMinutes_42 rfl (fun h1 => ?_) (fun h1 => ?_)
  · replace K := K.1 h1
    exact ev_ret (r := none) d_M_findMinutes_216 rfl rfl K
  · replace K := K.2 h1
    refine ev_aload_n d_M_findMinutes_45 rfl rfl ?_
    refine ev_iload_n d_M_findMinutes_46 rfl rfl ?_
    refine ev_callV (as := [vI a2]) (st := []) (k := 11) (i := 0) g_M_isRead ml_M_188 rfl rfl (by decide) (by decide) d_M_findMinutes_47 rfl rfl (Nat.le_of_ble_eq_true rfl) rfl (Nat.le_of_ble_eq_true rfl) ?_
    refine f_M_isRead  ?_
    show Ev none (d + 4) m_M_findMinutes 50 [some (vR 11 0), some (vI a1), some (vI a2), none, none, none, none, none] [vI (bi (fp_M_isRead σ a2))] σ post
    refine ev_ifb_eq (tgt := 210) d_M_findMinutes_50 rfl (fun h2 => ?_) (fun h2 => ?_)
    · replace K := K.2 h2
      refine ev_iinc (v := a2 + (1 : Int32)) (L' := [some (vR 11 0), some (vI a1), some (vI (a2 + (1 : Int32))), none, none, none, none, none]) d_M_findMinutes_210 rfl (congrArg (a2 + ·) (by decide)) (by decide) rfl ?_
      refine ev_goto (tgt := 37) d_M_findMinutes_213 rfl ?_
      exact K
    · replace K := K.1 h2
      refine ev_iconst (v := 0) d_M_findMinutes_53 (by decide) ?_
      refine ev_istore_n (L' := [some (vR 11 0), some (vI a1), some (vI a2), some (vI (0 : Int32)), none, none, none, none]) d_M_findMinutes_54 rfl (by decide) rfl ?_
      exact K
set_option maxRecDepth 4000 in
theorem sg_M_findMinutes_55 {d : Nat} {σ : ST} {a1 : Int32} {a2 : Int32} {a3 : Int32} {post : Option AV → ST → Prop} (K : (((3200 : Int32) ≤ a3) → (Ev none (d + 4) m_M_findMinutes 77 [some (vR 11 0), some (vI a1), some (vI a2), some (vI (0 : Int32)), none, none, none, none] [] σ post)) ∧ (¬ ((3200 : Int32) ≤ a3) → ((vp_in a3 3200) ∧ (Ev none (d + 4) m_M_findMinutes 55 [some (vR 11 0), some (vI a1), some (vI a2), some (vI (a3 + (1 : Int32))), none, none, none, none] [] (setJ σ 62 0 (a3.toNatClampNeg) (0 : Int64)) post)))) : Ev none (d + 4) m_M_findMinutes 55 [some (vR 11 0), some (vI a1), some (vI a2), some (vI a3), none, none, none, none] [] σ post := by
  refine ev_iload_n d_M_findMinutes_55 rfl rfl ?_
  refine ev_sipush (v := 3200) d_M_findMinutes_56 (by decide) ?_
  refine ev_icmp_ge (tgt := 75) d_M_findMinutes_59 rfl (fun h2 => ?_) (fun h2 => ?_)
  · replace K := K.1 h2
    refine ev_iconst (v := 0) d_M_findMinutes_75 (by decide) ?_
    refine ev_istore_n (L' := [some (vR 11 0), some (vI a1), some (vI a2), some (vI (0 : Int32)), none, none, none, none]) d_M_findMinutes_76 rfl (by decide) rfl ?_
    exact K
  · replace K := K.2 h2
    refine ev_aload_n d_M_findMinutes_62 rfl rfl ?_
    refine ev_getR gf_M_71 rfl (by decide) d_M_findMinutes_63 ?_
    refine ev_iload_n d_M_findMinutes_66 rfl rfl ?_
    refine ev_lconst (v := 0) d_M_findMinutes_67 (by decide) ?_
    obtain ⟨q3, K⟩ := K
    refine ev_last rfl (by decide) (by decide) q3 d_M_findMinutes_68 ?_
    refine ev_iinc (v := a3 + (1 : Int32)) (L' := [some (vR 11 0), some (vI a1), some (vI a2), some (vI (a3 + (1 : Int32))), none, none, none, none]) d_M_findMinutes_69 rfl (congrArg (a3 + ·) (by decide)) (by decide) rfl ?_
    refine ev_goto (tgt := 55) d_M_findMinutes_72 rfl ?_
    exact K
set_option maxRecDepth 4000 in
theorem sg_M_findMinutes_77 {d : Nat} {σ : ST} {a1 : Int32} {a2 : Int32} {a3 : Int32} {post : Option AV → ST → Prop} (K : (((64 : Int32) ≤ a3) → (Ev none (d + 4) m_M_findMinutes 170 [some (vR 11 0), some (vI a1), some (vI a2), some (vI (0 : Int32)), none, none, none, none] [] σ post)) ∧ (¬ ((64 : Int32) ≤ a3) → ((((a3 &&& (a1 ^^^ (-1 : Int32))) = 0) → (Ev none (d + 3) m_M_quarters 0 [some (vR 11 0), some (vI a1), some (vI a3), none, none, none] [] σ (fun r s5 => ∃ z6 : Int64, r = some (vJ z6) ∧ (Ev none (d + 3) m_M_togetherSo 0 [some (vR 11 0), some (vI a1), some (vI a3), some (vI a2), none, none, none] [] s5 (fun r s7 => ∃ z8 : Int32, r = some (vI z8) ∧ (Ev none (d + 4) m_M_findMinutes 115 [some (vR 11 0), some (vI a1), some (vI a2), some (vI a3), some (vJ z6), none, some (vI z8), some (vI (0 : Int32))] [] s7 post)))))) ∧ (¬ ((a3 &&& (a1 ^^^ (-1 : Int32))) = 0) → (Ev none (d + 3) m_M_togetherSo 0 [some (vR 11 0), some (vI a1), some (vI a3), some (vI a2), none, none, none] [] σ (fun r s3 => ∃ z4 : Int32, r = some (vI z4) ∧ (Ev none (d + 4) m_M_findMinutes 115 [some (vR 11 0), some (vI a1), some (vI a2), some (vI a3), some (vJ (0 : Int64)), none, some (vI z4), some (vI (0 : Int32))] [] s3 post))))))) : Ev none (d + 4) m_M_findMinutes 77 [some (vR 11 0), some (vI a1), some (vI a2), some (vI a3), none, none, none, none] [] σ post := by
  refine ev_iload_n d_M_findMinutes_77 rfl rfl ?_
  refine ev_bipush (v := 64) d_M_findMinutes_78 (by decide) ?_
  refine ev_icmp_ge (tgt := 168) d_M_findMinutes_80 rfl (fun h1 => ?_) (fun h1 => ?_)
  · replace K := K.1 h1
    refine ev_iconst (v := 0) d_M_findMinutes_168 (by decide) ?_
    refine ev_istore_n (L' := [some (vR 11 0), some (vI a1), some (vI a2), some (vI (0 : Int32)), none, none, none, none]) d_M_findMinutes_169 rfl (by decide) rfl ?_
    exact K
  · replace K := K.2 h1
    refine ev_iload_n d_M_findMinutes_83 rfl rfl ?_
    refine ev_iload_n d_M_findMinutes_84 rfl rfl ?_
    refine ev_iconst (v := -1) d_M_findMinutes_85 (by decide) ?_
    refine ev_ixor d_M_findMinutes_86 ?_
    refine ev_iand d_M_findMinutes_87 ?_
    refine ev_if_ne (tgt := 100) d_M_findMinutes_88 rfl (fun h2 => ?_) (fun h2 => ?_)
    · replace K := K.2 h2
      refine ev_lconst (v := 0) d_M_findMinutes_100 (by decide) ?_
      refine ev_lstore (L' := [some (vR 11 0), some (vI a1), some (vI a2), some (vI a3), some (vJ (0 : Int64)), none, none, none]) d_M_findMinutes_101 (by decide) rfl ?_
      refine ev_aload_n d_M_findMinutes_103 rfl rfl ?_
      refine ev_iload_n d_M_findMinutes_104 rfl rfl ?_
      refine ev_iload_n d_M_findMinutes_105 rfl rfl ?_
      refine ev_iload_n d_M_findMinutes_106 rfl rfl ?_
      refine ev_callV (as := [vI a1, vI a3, vI a2]) (st := []) (k := 11) (i := 0) g_M_togetherSo ml_M_278 rfl rfl (by decide) (by decide) d_M_findMinutes_107 rfl rfl (Nat.le_of_ble_eq_true rfl) rfl (Nat.le_of_ble_eq_true rfl) ?_
      refine Ev.mono K ?_
      rintro _ s3 ⟨z4, rfl, K⟩
      show Ev none (d + 4) m_M_findMinutes 110 [some (vR 11 0), some (vI a1), some (vI a2), some (vI a3), some (vJ (0 : Int64)), none, none, none] [vI z4] s3 post
      refine ev_istore (L' := [some (vR 11 0), some (vI a1), some (vI a2), some (vI a3), some (vJ (0 : Int64)), none, some (vI z4), none]) d_M_findMinutes_110 (by decide) rfl ?_
      refine ev_iconst (v := 0) d_M_findMinutes_112 (by decide) ?_
      refine ev_istore (L' := [some (vR 11 0), some (vI a1), some (vI a2), some (vI a3), some (vJ (0 : Int64)), none, some (vI z4), some (vI (0 : Int32))]) d_M_findMinutes_113 (by decide) rfl ?_
      exact K
    · replace K := K.1 h2
      refine ev_aload_n d_M_findMinutes_91 rfl rfl ?_
      refine ev_iload_n d_M_findMinutes_92 rfl rfl ?_
      refine ev_iload_n d_M_findMinutes_93 rfl rfl ?_
      refine ev_callV (as := [vI a1, vI a3]) (st := []) (k := 11) (i := 0) g_M_quarters ml_M_274 rfl rfl (by decide) (by decide) d_M_findMinutes_94 rfl rfl (Nat.le_of_ble_eq_true rfl) rfl (Nat.le_of_ble_eq_true rfl) ?_
      refine Ev.mono K ?_
      rintro _ s5 ⟨z6, rfl, K⟩
      show Ev none (d + 4) m_M_findMinutes 97 [some (vR 11 0), some (vI a1), some (vI a2), some (vI a3), none, none, none, none] [vJ z6] s5 post
      refine ev_goto (tgt := 101) d_M_findMinutes_97 rfl ?_
      refine ev_lstore (L' := [some (vR 11 0), some (vI a1), some (vI a2), some (vI a3), some (vJ z6), none, none, none]) d_M_findMinutes_101 (by decide) rfl ?_
      refine ev_aload_n d_M_findMinutes_103 rfl rfl ?_
      refine ev_iload_n d_M_findMinutes_104 rfl rfl ?_
      refine ev_iload_n d_M_findMinutes_105 rfl rfl ?_
      refine ev_iload_n d_M_findMinutes_106 rfl rfl ?_
      refine ev_callV (as := [vI a1, vI a3, vI a2]) (st := []) (k := 11) (i := 0) g_M_togetherSo ml_M_278 rfl rfl (by decide) (by decide) d_M_findMinutes_107 rfl rfl (Nat.le_of_ble_eq_true rfl) rfl (Nat.le_of_ble_eq_true rfl) ?_
      refine Ev.mono K ?_
      rintro _ s7 ⟨z8, rfl, K⟩
      show Ev none (d + 4) m_M_findMinutes 110 [some (vR 11 0), some (vI a1), some (vI a2), some (vI a3), some (vJ z6), none, none, none] [vI z8] s7 post
      refine ev_istore (L' := [some (vR 11 0), some (vI a1), some (vI a2), some (vI a3), some (vJ z6), none, some (vI z8), none]) d_M_findMinutes_110 (by decide) rfl ?_
      refine ev_iconst (v := 0) d_M_findMinutes_112 (by decide) ?_
      refine ev_istore (L' := [some (vR 11 0), some (vI a1), some (vI a2), some (vI a3), some (vJ z6), none, some (vI z8), some (vI (0 : Int32))]) d_M_findMinutes_113 (by decide) rfl ?_
      exact K
set_option maxRecDepth 4000 in
theorem sg_M_findMinutes_115 {d : Nat} {σ : ST} {a1 : Int32} {a2 : Int32} {a3 : Int32} {a4 : Int64} {a6 : Int32} {a7 : Int32} {post : Option AV → ST → Prop} (K : ((((3200 : Int32) ≤ (a7 + a6)) ∨ (a4 ≤ (0 : Int64))) → (Ev none (d + 4) m_M_findMinutes 77 [some (vR 11 0), some (vI a1), some (vI a2), some (vI (a3 + (1 : Int32))), none, none, none, none] [] σ post)) ∧ (¬ (((3200 : Int32) ≤ (a7 + a6)) ∨ (a4 ≤ (0 : Int64))) → ((vp_in (a7 + a6) 3200) ∧ ((vp_in a7 3200) ∧ ((vp_in (a7 + a6) 3200) ∧ (Ev none (d + 4) m_M_findMinutes 115 [some (vR 11 0), some (vI a1), some (vI a2), some (vI a3), some (vJ a4), none, some (vI a6), some (vI (a7 + (1 : Int32)))] [] (setJ σ 62 0 ((a7 + a6).toNatClampNeg) ((σ.2 62 0 ((a7 + a6).toNatClampNeg)) + ((σ.2 61 0 (a7.toNatClampNeg)) * a4))) post)))))) : Ev none (d + 4) m_M_findMinutes 115 [some (vR 11 0), some (vI a1), some (vI a2), some (vI a3), some (vJ a4), none, some (vI a6), some (vI a7)] [] σ post := by
  refine ev_iload d_M_findMinutes_115 rfl ?_
  refine ev_iload d_M_findMinutes_117 rfl ?_
  refine ev_iadd d_M_findMinutes_119 ?_
  refine ev_sipush (v := 3200) d_M_findMinutes_120 (by decide) ?_
  obtain ⟨w4, e5⟩ : ∃ w : Int32, w = bi (((3200 : Int32) ≤ (a7 + a6)) ∨ (a4 ≤ (0 : Int64))) := ⟨_, rfl⟩
  have J1 : w4 = 1 → Ev none (d + 4) m_M_findMinutes 162 [some (vR 11 0), some (vI a1), some (vI a2), some (vI a3), some (vJ a4), none, some (vI a6), some (vI a7)] [] σ post := by
    intro e51
    replace K := K.1 (bi_1.mp ((e5.symm).trans e51))
    refine ev_iinc (v := a3 + (1 : Int32)) (L' := [some (vR 11 0), some (vI a1), some (vI a2), some (vI (a3 + (1 : Int32))), some (vJ a4), none, some (vI a6), some (vI a7)]) d_M_findMinutes_162 rfl (congrArg (a3 + ·) (by decide)) (by decide) rfl ?_
    refine ev_goto (tgt := 77) d_M_findMinutes_165 rfl ?_
    exact Ev.wk (lsub_kp (lsub_kp (lsub_kp (lsub_kp (lsub_sk (lsub_sk (lsub_sk (lsub_sk (lsub_nil))))))))) K
  have J0 : w4 = 0 → Ev none (d + 4) m_M_findMinutes 133 [some (vR 11 0), some (vI a1), some (vI a2), some (vI a3), some (vJ a4), none, some (vI a6), some (vI a7)] [] σ post := by
    intro e50
    replace K := K.2 (bi_0.mp ((e5.symm).trans e50))
    refine ev_aload_n d_M_findMinutes_133 rfl rfl ?_
    refine ev_getR gf_M_71 rfl (by decide) d_M_findMinutes_134 ?_
    refine ev_iload d_M_findMinutes_137 rfl ?_
    refine ev_iload d_M_findMinutes_139 rfl ?_
    refine ev_iadd d_M_findMinutes_141 ?_
    refine ev_dup2 d_M_findMinutes_142 rfl rfl ?_
    obtain ⟨q6, K⟩ := K
    refine ev_lald rfl (by decide) (by decide) q6 d_M_findMinutes_143 ?_
    refine ev_aload_n d_M_findMinutes_144 rfl rfl ?_
    refine ev_getR gf_M_67 rfl (by decide) d_M_findMinutes_145 ?_
    refine ev_iload d_M_findMinutes_148 rfl ?_
    obtain ⟨q7, K⟩ := K
    refine ev_lald rfl (by decide) (by decide) q7 d_M_findMinutes_150 ?_
    refine ev_lload d_M_findMinutes_151 rfl ?_
    refine ev_lmul d_M_findMinutes_153 ?_
    refine ev_ladd d_M_findMinutes_154 ?_
    obtain ⟨q8, K⟩ := K
    refine ev_last rfl (by decide) (by decide) q8 d_M_findMinutes_155 ?_
    refine ev_iinc (v := a7 + (1 : Int32)) (L' := [some (vR 11 0), some (vI a1), some (vI a2), some (vI a3), some (vJ a4), none, some (vI a6), some (vI (a7 + (1 : Int32)))]) d_M_findMinutes_156 rfl (congrArg (a7 + ·) (by decide)) (by decide) rfl ?_
    refine ev_goto (tgt := 115) d_M_findMinutes_159 rfl ?_
    exact K
  clear K
  refine ev_icmp_ge (tgt := 162) d_M_findMinutes_123 rfl (fun h9 => ?_) (fun h9 => ?_)
  · rw [b4t h9] at e5
    exact J1 e5
  · rw [b4f h9] at e5
    refine ev_lload d_M_findMinutes_126 rfl ?_
    refine ev_lconst (v := 0) d_M_findMinutes_128 (by decide) ?_
    refine ev_lcmp d_M_findMinutes_129 ?_
    refine ev_ifc_le (tgt := 162) d_M_findMinutes_130 rfl (fun h10 => ?_) (fun h10 => ?_)
    · rw [bi_t h10] at e5
      exact J1 e5
    · rw [bi_f h10] at e5
      exact J0 e5
set_option maxRecDepth 4000 in
theorem sg_M_findMinutes_170 {d : Nat} {σ : ST} {a1 : Int32} {a2 : Int32} {a3 : Int32} {post : Option AV → ST → Prop} (K : (((3200 : Int32) ≤ a3) → (Ev none (d + 3) m_M_ones 0 [some (vI a1), none, none] [] σ (fun r s4 => ∃ z5 : Int32, r = some (vI z5) ∧ (Ev none (d + 4) m_M_findMinutes 37 [some (vR 11 0), some (vI a1), some (vI (a2 + (1 : Int32))), none, none, none, none, none] [] (setJ s4 11 0 33 (lsl (σ.2 11 0 33) ((2 : Int32) * z5))) post)))) ∧ (¬ ((3200 : Int32) ≤ a3) → ((vp_in a3 3200) ∧ ((vp_in a3 3200) ∧ (Ev none (d + 4) m_M_findMinutes 170 [some (vR 11 0), some (vI a1), some (vI a2), some (vI (a3 + (1 : Int32))), none, none, none, none] [] (setJ σ 61 0 (a3.toNatClampNeg) (σ.2 62 0 (a3.toNatClampNeg))) post))))) : Ev none (d + 4) m_M_findMinutes 170 [some (vR 11 0), some (vI a1), some (vI a2), some (vI a3), none, none, none, none] [] σ post := by
  refine ev_iload_n d_M_findMinutes_170 rfl rfl ?_
  refine ev_sipush (v := 3200) d_M_findMinutes_171 (by decide) ?_
  refine ev_icmp_ge (tgt := 195) d_M_findMinutes_174 rfl (fun h3 => ?_) (fun h3 => ?_)
  · replace K := K.1 h3
    refine ev_aload_n d_M_findMinutes_195 rfl rfl ?_
    refine ev_dup d_M_findMinutes_196 rfl ?_
    refine ev_getJ gf_M_270 rfl (by decide) d_M_findMinutes_197 ?_
    refine ev_iconst (v := 2) d_M_findMinutes_200 (by decide) ?_
    refine ev_iload_n d_M_findMinutes_201 rfl rfl ?_
    refine ev_callS (as := [vI a1]) (st := [vI (2 : Int32), vJ (σ.2 11 0 33), vR 11 0]) g_M_ones ml_M_246 d_M_findMinutes_202 rfl rfl (Nat.le_of_ble_eq_true rfl) rfl (Nat.le_of_ble_eq_true rfl) ?_
    refine Ev.mono K ?_
    rintro _ s4 ⟨z5, rfl, K⟩
    show Ev none (d + 4) m_M_findMinutes 205 [some (vR 11 0), some (vI a1), some (vI a2), some (vI a3), none, none, none, none] [vI z5, vI (2 : Int32), vJ (σ.2 11 0 33), vR 11 0] s4 post
    refine ev_imul d_M_findMinutes_205 ?_
    refine ev_lshl d_M_findMinutes_206 ?_
    refine ev_putJ gp_M_270 rfl (by decide) d_M_findMinutes_207 ?_
    refine ev_iinc (v := a2 + (1 : Int32)) (L' := [some (vR 11 0), some (vI a1), some (vI (a2 + (1 : Int32))), some (vI a3), none, none, none, none]) d_M_findMinutes_210 rfl (congrArg (a2 + ·) (by decide)) (by decide) rfl ?_
    refine ev_goto (tgt := 37) d_M_findMinutes_213 rfl ?_
    exact Ev.wk (lsub_kp (lsub_kp (lsub_kp (lsub_sk (lsub_sk (lsub_sk (lsub_sk (lsub_sk (lsub_nil))))))))) K
  · replace K := K.2 h3
    refine ev_aload_n d_M_findMinutes_177 rfl rfl ?_
    refine ev_getR gf_M_67 rfl (by decide) d_M_findMinutes_178 ?_
    refine ev_iload_n d_M_findMinutes_181 rfl rfl ?_
    refine ev_aload_n d_M_findMinutes_182 rfl rfl ?_
    refine ev_getR gf_M_71 rfl (by decide) d_M_findMinutes_183 ?_
    refine ev_iload_n d_M_findMinutes_186 rfl rfl ?_
    obtain ⟨q6, K⟩ := K
    refine ev_lald rfl (by decide) (by decide) q6 d_M_findMinutes_187 ?_
    obtain ⟨q7, K⟩ := K
    refine ev_last rfl (by decide) (by decide) q7 d_M_findMinutes_188 ?_
    refine ev_iinc (v := a3 + (1 : Int32)) (L' := [some (vR 11 0), some (vI a1), some (vI a2), some (vI (a3 + (1 : Int32))), none, none, none, none]) d_M_findMinutes_189 rfl (congrArg (a3 + ·) (by decide)) (by decide) rfl ?_
    refine ev_goto (tgt := 170) d_M_findMinutes_192 rfl ?_
    exact K
set_option maxRecDepth 4000 in
theorem sg_M_findPairs_0 {d : Nat} {σ : ST}  {post : Option AV → ST → Prop} (K : Ev none (d + 4) m_M_findPairs 2 [some (vR 11 0), some (vI (0 : Int32)), none, none, none, none] [] σ post) : Ev none (d + 4) m_M_findPairs 0 [some (vR 11 0), none, none, none, none, none] [] σ post := by
  refine ev_iconst (v := 0) d_M_findPairs_0 (by decide) ?_
  refine ev_istore_n (L' := [some (vR 11 0), some (vI (0 : Int32)), none, none, none, none]) d_M_findPairs_1 rfl (by decide) rfl ?_
  exact K
set_option maxRecDepth 4000 in
theorem sg_M_findPairs_2 {d : Nat} {σ : ST} {a1 : Int32} {post : Option AV → ST → Prop} (K : (((64 : Int32) ≤ a1) → (post none σ)) ∧ (¬ ((64 : Int32) ≤ a1) → (∀ z2 : Int32, z2 = (if a1 = 0 then (0 : Int32) else (1000000 : Int32)) → ((vp_in a1 64) ∧ ((vp_in a1 64) ∧ (((a1 ≤ 0) → (Ev none (d + 4) m_M_findPairs 2 [some (vR 11 0), some (vI (a1 + (1 : Int32))), none, none, none, none] [] (setI (setI σ 58 0 (a1.toNatClampNeg) z2) 59 0 (a1.toNatClampNeg) (-1 : Int32)) post)) ∧ (¬ (a1 ≤ 0) → (Ev none (d + 3) m_M_ones 0 [some (vI a1), none, none] [] (setI (setI σ 58 0 (a1.toNatClampNeg) z2) 59 0 (a1.toNatClampNeg) (-1 : Int32)) (fun r s6 => ∃ z7 : Int32, r = some (vI z7) ∧ ((((irm z7 (2 : Int32)) = 0) → (Ev none (d + 3) m_M_first 0 [some (vI a1), none] [] s6 (fun r s9 => ∃ z10 : Int32, r = some (vI z10) ∧ (Ev none (d + 4) m_M_findPairs 53 [some (vR 11 0), some (vI a1), some (vI z10), some (vI (z10 + (1 : Int32))), none, none] [] s9 post)))) ∧ (¬ ((irm z7 (2 : Int32)) = 0) → (Ev none (d + 4) m_M_findPairs 2 [some (vR 11 0), some (vI (a1 + (1 : Int32))), none, none, none, none] [] s6 post)))))))))))) : Ev none (d + 4) m_M_findPairs 2 [some (vR 11 0), some (vI a1), none, none, none, none] [] σ post := by
  refine ev_iload_n d_M_findPairs_2 rfl rfl ?_
  refine ev_bipush (v := 64) d_M_findPairs_3 (by decide) ?_
  refine ev_icmp_ge (tgt := 170) d_M_findPairs_5 rfl (fun h1 => ?_) (fun h1 => ?_)
  · replace K := K.1 h1
    exact ev_ret (r := none) d_M_findPairs_170 rfl rfl K
  · replace K := K.2 h1
    refine ev_aload_n d_M_findPairs_8 rfl rfl ?_
    refine ev_getR gf_M_58 rfl (by decide) d_M_findPairs_9 ?_
    refine ev_iload_n d_M_findPairs_12 rfl rfl ?_
    refine ev_iload_n d_M_findPairs_13 rfl rfl ?_
    obtain ⟨z2, ez2⟩ : ∃ z : Int32, z = (if a1 = 0 then (0 : Int32) else (1000000 : Int32)) := ⟨_, rfl⟩
    replace K := K z2 ez2
    have JJ : Ev none (d + 4) m_M_findPairs 23 [some (vR 11 0), some (vI a1), none, none, none, none] [vI z2, vI a1, vR 58 0] σ post := by
      obtain ⟨q3, K⟩ := K
      refine ev_iast rfl (by decide) (by decide) q3 d_M_findPairs_23 ?_
      refine ev_aload_n d_M_findPairs_24 rfl rfl ?_
      refine ev_getR gf_M_61 rfl (by decide) d_M_findPairs_25 ?_
      refine ev_iload_n d_M_findPairs_28 rfl rfl ?_
      refine ev_iconst (v := -1) d_M_findPairs_29 (by decide) ?_
      obtain ⟨q4, K⟩ := K
      refine ev_iast rfl (by decide) (by decide) q4 d_M_findPairs_30 ?_
      refine ev_iload_n d_M_findPairs_31 rfl rfl ?_
      refine ev_if_le (tgt := 164) d_M_findPairs_32 rfl (fun h5 => ?_) (fun h5 => ?_)
      · replace K := K.1 h5
        refine ev_iinc (v := a1 + (1 : Int32)) (L' := [some (vR 11 0), some (vI (a1 + (1 : Int32))), none, none, none, none]) d_M_findPairs_164 rfl (congrArg (a1 + ·) (by decide)) (by decide) rfl ?_
        refine ev_goto (tgt := 2) d_M_findPairs_167 rfl ?_
        exact K
      · replace K := K.2 h5
        refine ev_iload_n d_M_findPairs_35 rfl rfl ?_
        refine ev_callS (as := [vI a1]) (st := []) g_M_ones ml_M_246 d_M_findPairs_36 rfl rfl (Nat.le_of_ble_eq_true rfl) rfl (Nat.le_of_ble_eq_true rfl) ?_
        refine Ev.mono K ?_
        rintro _ s6 ⟨z7, rfl, K⟩
        show Ev none (d + 4) m_M_findPairs 39 [some (vR 11 0), some (vI a1), none, none, none, none] [vI z7] s6 post
        refine ev_iconst (v := 2) d_M_findPairs_39 (by decide) ?_
        refine ev_irem d_M_findPairs_40 (by decide) ?_
        refine ev_if_ne (tgt := 164) d_M_findPairs_41 rfl (fun h8 => ?_) (fun h8 => ?_)
        · replace K := K.2 h8
          refine ev_iinc (v := a1 + (1 : Int32)) (L' := [some (vR 11 0), some (vI (a1 + (1 : Int32))), none, none, none, none]) d_M_findPairs_164 rfl (congrArg (a1 + ·) (by decide)) (by decide) rfl ?_
          refine ev_goto (tgt := 2) d_M_findPairs_167 rfl ?_
          exact K
        · replace K := K.1 h8
          refine ev_iload_n d_M_findPairs_44 rfl rfl ?_
          refine ev_callS (as := [vI a1]) (st := []) g_M_first ml_M_249 d_M_findPairs_45 rfl rfl (Nat.le_of_ble_eq_true rfl) rfl (Nat.le_of_ble_eq_true rfl) ?_
          refine Ev.mono K ?_
          rintro _ s9 ⟨z10, rfl, K⟩
          show Ev none (d + 4) m_M_findPairs 48 [some (vR 11 0), some (vI a1), none, none, none, none] [vI z10] s9 post
          refine ev_istore_n (L' := [some (vR 11 0), some (vI a1), some (vI z10), none, none, none]) d_M_findPairs_48 rfl (by decide) rfl ?_
          refine ev_iload_n d_M_findPairs_49 rfl rfl ?_
          refine ev_iconst (v := 1) d_M_findPairs_50 (by decide) ?_
          refine ev_iadd d_M_findPairs_51 ?_
          refine ev_istore_n (L' := [some (vR 11 0), some (vI a1), some (vI z10), some (vI (z10 + (1 : Int32))), none, none]) d_M_findPairs_52 rfl (by decide) rfl ?_
          exact K
    clear K
    refine ev_if_ne (tgt := 21) d_M_findPairs_14 rfl (fun h11 => ?_) (fun h11 => ?_)
    · rw [if_neg h11] at ez2
      refine ev_ldc d_M_findPairs_21 cn_M_245 ?_
      subst ez2
      exact JJ
    · rw [if_pos h11] at ez2
      refine ev_iconst (v := 0) d_M_findPairs_17 (by decide) ?_
      refine ev_goto (tgt := 23) d_M_findPairs_18 rfl ?_
      subst ez2
      exact JJ
set_option maxRecDepth 4000 in
theorem sg_M_findPairs_53 {d : Nat} {σ : ST} {a1 : Int32} {a2 : Int32} {a3 : Int32} {post : Option AV → ST → Prop} (K : (((6 : Int32) ≤ a3) → (Ev none (d + 4) m_M_findPairs 2 [some (vR 11 0), some (vI (a1 + (1 : Int32))), none, none, none, none] [] σ post)) ∧ (¬ ((6 : Int32) ≤ a3) → (((fp_M_isIn σ a1 a3) → (Ev none (d + 3) m_M_apart 0 [some (vR 11 0), some (vI a2), some (vI a3), none, none] [] σ (fun r s13 => ∃ z14 : Int32, r = some (vI z14) ∧ ((vp_in ((a1 &&& ((isl (1 : Int32) a2) ^^^ (-1 : Int32))) &&& ((isl (1 : Int32) a3) ^^^ (-1 : Int32))) 64) ∧ ((vp_in a1 64) ∧ (((((s13.1 58 0 (a1.toNatClampNeg)) ≤ (z14 + (s13.1 58 0 (((a1 &&& ((isl (1 : Int32) a2) ^^^ (-1 : Int32))) &&& ((isl (1 : Int32) a3) ^^^ (-1 : Int32))).toNatClampNeg)))) → (vp_in a1 64)) ∧ (¬ ((s13.1 58 0 (a1.toNatClampNeg)) ≤ (z14 + (s13.1 58 0 (((a1 &&& ((isl (1 : Int32) a2) ^^^ (-1 : Int32))) &&& ((isl (1 : Int32) a3) ^^^ (-1 : Int32))).toNatClampNeg)))) → True)) ∧ (∀ z18 : Int32, z18 = (if (s13.1 58 0 (a1.toNatClampNeg)) ≤ (z14 + (s13.1 58 0 (((a1 &&& ((isl (1 : Int32) a2) ^^^ (-1 : Int32))) &&& ((isl (1 : Int32) a3) ^^^ (-1 : Int32))).toNatClampNeg))) then (s13.1 59 0 (a1.toNatClampNeg)) else a3) → ((vp_in a1 64) ∧ ((vp_in a1 64) ∧ ((((((setI s13 59 0 (a1.toNatClampNeg) z18).1 58 0 (a1.toNatClampNeg)) ≤ (z14 + (s13.1 58 0 (((a1 &&& ((isl (1 : Int32) a2) ^^^ (-1 : Int32))) &&& ((isl (1 : Int32) a3) ^^^ (-1 : Int32))).toNatClampNeg)))) → (vp_in a1 64)) ∧ (¬ (((setI s13 59 0 (a1.toNatClampNeg) z18).1 58 0 (a1.toNatClampNeg)) ≤ (z14 + (s13.1 58 0 (((a1 &&& ((isl (1 : Int32) a2) ^^^ (-1 : Int32))) &&& ((isl (1 : Int32) a3) ^^^ (-1 : Int32))).toNatClampNeg)))) → True)) ∧ (∀ z22 : Int32, z22 = (if ((setI s13 59 0 (a1.toNatClampNeg) z18).1 58 0 (a1.toNatClampNeg)) ≤ (z14 + (s13.1 58 0 (((a1 &&& ((isl (1 : Int32) a2) ^^^ (-1 : Int32))) &&& ((isl (1 : Int32) a3) ^^^ (-1 : Int32))).toNatClampNeg))) then ((setI s13 59 0 (a1.toNatClampNeg) z18).1 58 0 (a1.toNatClampNeg)) else (z14 + (s13.1 58 0 (((a1 &&& ((isl (1 : Int32) a2) ^^^ (-1 : Int32))) &&& ((isl (1 : Int32) a3) ^^^ (-1 : Int32))).toNatClampNeg)))) → ((vp_in a1 64) ∧ (Ev none (d + 4) m_M_findPairs 53 [some (vR 11 0), some (vI a1), some (vI a2), some (vI (a3 + (1 : Int32))), none, none] [] (setI (setI s13 59 0 (a1.toNatClampNeg) z18) 58 0 (a1.toNatClampNeg) z22) post))))))))))))) ∧ (¬ (fp_M_isIn σ a1 a3) → ((vp_in a1 64) ∧ (((((σ.1 58 0 (a1.toNatClampNeg)) ≤ (1000000 : Int32)) → (vp_in a1 64)) ∧ (¬ ((σ.1 58 0 (a1.toNatClampNeg)) ≤ (1000000 : Int32)) → True)) ∧ (∀ z5 : Int32, z5 = (if (σ.1 58 0 (a1.toNatClampNeg)) ≤ (1000000 : Int32) then (σ.1 59 0 (a1.toNatClampNeg)) else a3) → ((vp_in a1 64) ∧ ((vp_in a1 64) ∧ ((((((setI σ 59 0 (a1.toNatClampNeg) z5).1 58 0 (a1.toNatClampNeg)) ≤ (1000000 : Int32)) → (vp_in a1 64)) ∧ (¬ (((setI σ 59 0 (a1.toNatClampNeg) z5).1 58 0 (a1.toNatClampNeg)) ≤ (1000000 : Int32)) → True)) ∧ (∀ z9 : Int32, z9 = (if ((setI σ 59 0 (a1.toNatClampNeg) z5).1 58 0 (a1.toNatClampNeg)) ≤ (1000000 : Int32) then ((setI σ 59 0 (a1.toNatClampNeg) z5).1 58 0 (a1.toNatClampNeg)) else (1000000 : Int32)) → ((vp_in a1 64) ∧ (Ev none (d + 4) m_M_findPairs 53 [some (vR 11 0), some (vI a1), some (vI a2), some (vI (a3 + (1 : Int32))), none, none] [] (setI (setI σ 59 0 (a1.toNatClampNeg) z5) 58 0 (a1.toNatClampNeg) z9) post))))))))))))) : Ev none (d + 4) m_M_findPairs 53 [some (vR 11 0), some (vI a1), some (vI a2), some (vI a3), none, none] [] σ post := by
  refine ev_iload_n d_M_findPairs_53 rfl rfl ?_
  refine ev_bipush (v := 6) d_M_findPairs_54 (by decide) ?_
  refine ev_icmp_ge (tgt := 164) d_M_findPairs_56 rfl (fun h1 => ?_) (fun h1 => ?_)
  · replace K := K.1 h1
    refine ev_iinc (v := a1 + (1 : Int32)) (L' := [some (vR 11 0), some (vI (a1 + (1 : Int32))), some (vI a2), some (vI a3), none, none]) d_M_findPairs_164 rfl (congrArg (a1 + ·) (by decide)) (by decide) rfl ?_
    refine ev_goto (tgt := 2) d_M_findPairs_167 rfl ?_
    exact Ev.wk (lsub_kp (lsub_kp (lsub_sk (lsub_sk (lsub_sk (lsub_sk (lsub_nil))))))) K
  · replace K := K.2 h1
    refine ev_iload_n d_M_findPairs_59 rfl rfl ?_
    refine ev_iconst (v := 1) d_M_findPairs_60 (by decide) ?_
    refine ev_iload_n d_M_findPairs_61 rfl rfl ?_
    refine ev_ishl d_M_findPairs_62 ?_
    refine ev_iconst (v := -1) d_M_findPairs_63 (by decide) ?_
    refine ev_ixor d_M_findPairs_64 ?_
    refine ev_iand d_M_findPairs_65 ?_
    refine ev_iconst (v := 1) d_M_findPairs_66 (by decide) ?_
    refine ev_iload_n d_M_findPairs_67 rfl rfl ?_
    refine ev_ishl d_M_findPairs_68 ?_
    refine ev_iconst (v := -1) d_M_findPairs_69 (by decide) ?_
    refine ev_ixor d_M_findPairs_70 ?_
    refine ev_iand d_M_findPairs_71 ?_
    refine ev_istore (L' := [some (vR 11 0), some (vI a1), some (vI a2), some (vI a3), some (vI ((a1 &&& ((isl (1 : Int32) a2) ^^^ (-1 : Int32))) &&& ((isl (1 : Int32) a3) ^^^ (-1 : Int32)))), none]) d_M_findPairs_72 (by decide) rfl ?_
    refine ev_iload_n d_M_findPairs_74 rfl rfl ?_
    refine ev_iload_n d_M_findPairs_75 rfl rfl ?_
    refine ev_callS (as := [vI a1, vI a3]) (st := []) g_M_isIn ml_M_169 d_M_findPairs_76 rfl rfl (Nat.le_of_ble_eq_true rfl) rfl (Nat.le_of_ble_eq_true rfl) ?_
    refine f_M_isIn  ?_
    show Ev none (d + 4) m_M_findPairs 79 [some (vR 11 0), some (vI a1), some (vI a2), some (vI a3), some (vI ((a1 &&& ((isl (1 : Int32) a2) ^^^ (-1 : Int32))) &&& ((isl (1 : Int32) a3) ^^^ (-1 : Int32)))), none] [vI (bi (fp_M_isIn σ a1 a3))] σ post
    refine ev_ifb_eq (tgt := 99) d_M_findPairs_79 rfl (fun h2 => ?_) (fun h2 => ?_)
    · replace K := K.2 h2
      refine ev_ldc d_M_findPairs_99 cn_M_245 ?_
      refine ev_istore (L' := [some (vR 11 0), some (vI a1), some (vI a2), some (vI a3), some (vI ((a1 &&& ((isl (1 : Int32) a2) ^^^ (-1 : Int32))) &&& ((isl (1 : Int32) a3) ^^^ (-1 : Int32)))), some (vI (1000000 : Int32))]) d_M_findPairs_101 (by decide) rfl ?_
      refine ev_aload_n d_M_findPairs_103 rfl rfl ?_
      refine ev_getR gf_M_61 rfl (by decide) d_M_findPairs_104 ?_
      refine ev_iload_n d_M_findPairs_107 rfl rfl ?_
      refine ev_iload d_M_findPairs_108 rfl ?_
      refine ev_aload_n d_M_findPairs_110 rfl rfl ?_
      refine ev_getR gf_M_58 rfl (by decide) d_M_findPairs_111 ?_
      refine ev_iload_n d_M_findPairs_114 rfl rfl ?_
      obtain ⟨q3, K⟩ := K
      refine ev_iald rfl (by decide) (by decide) q3 d_M_findPairs_115 ?_
      obtain ⟨KS, K⟩ := K
      obtain ⟨z5, ez5⟩ : ∃ z : Int32, z = (if (σ.1 58 0 (a1.toNatClampNeg)) ≤ (1000000 : Int32) then (σ.1 59 0 (a1.toNatClampNeg)) else a3) := ⟨_, rfl⟩
      replace K := K z5 ez5
      have JJ : Ev none (d + 4) m_M_findPairs 129 [some (vR 11 0), some (vI a1), some (vI a2), some (vI a3), none, some (vI (1000000 : Int32))] [vI z5, vI a1, vR 59 0] σ post := by
        obtain ⟨q6, K⟩ := K
        refine ev_iast rfl (by decide) (by decide) q6 d_M_findPairs_129 ?_
        refine ev_aload_n d_M_findPairs_130 rfl rfl ?_
        refine ev_getR gf_M_58 rfl (by decide) d_M_findPairs_131 ?_
        refine ev_iload_n d_M_findPairs_134 rfl rfl ?_
        refine ev_iload d_M_findPairs_135 rfl ?_
        refine ev_aload_n d_M_findPairs_137 rfl rfl ?_
        refine ev_getR gf_M_58 rfl (by decide) d_M_findPairs_138 ?_
        refine ev_iload_n d_M_findPairs_141 rfl rfl ?_
        obtain ⟨q7, K⟩ := K
        refine ev_iald rfl (by decide) (by decide) q7 d_M_findPairs_142 ?_
        obtain ⟨KS, K⟩ := K
        obtain ⟨z9, ez9⟩ : ∃ z : Int32, z = (if ((setI σ 59 0 (a1.toNatClampNeg) z5).1 58 0 (a1.toNatClampNeg)) ≤ (1000000 : Int32) then ((setI σ 59 0 (a1.toNatClampNeg) z5).1 58 0 (a1.toNatClampNeg)) else (1000000 : Int32)) := ⟨_, rfl⟩
        replace K := K z9 ez9
        have JJ : Ev none (d + 4) m_M_findPairs 157 [some (vR 11 0), some (vI a1), some (vI a2), some (vI a3), none, none] [vI z9, vI a1, vR 58 0] (setI σ 59 0 (a1.toNatClampNeg) z5) post := by
          obtain ⟨q10, K⟩ := K
          refine ev_iast rfl (by decide) (by decide) q10 d_M_findPairs_157 ?_
          refine ev_iinc (v := a3 + (1 : Int32)) (L' := [some (vR 11 0), some (vI a1), some (vI a2), some (vI (a3 + (1 : Int32))), none, none]) d_M_findPairs_158 rfl (congrArg (a3 + ·) (by decide)) (by decide) rfl ?_
          refine ev_goto (tgt := 53) d_M_findPairs_161 rfl ?_
          exact K
        clear K
        refine ev_icmp_ge (tgt := 151) d_M_findPairs_143 rfl (fun h11 => ?_) (fun h11 => ?_)
        · replace KS := KS.1 h11
          rw [if_pos h11] at ez9
          have q8 := KS
          refine ev_aload_n d_M_findPairs_151 rfl rfl ?_
          refine ev_getR gf_M_58 rfl (by decide) d_M_findPairs_152 ?_
          refine ev_iload_n d_M_findPairs_155 rfl rfl ?_
          refine ev_iald rfl (by decide) (by decide) q8 d_M_findPairs_156 ?_
          subst ez9
          exact Ev.wk (lsub_kp (lsub_kp (lsub_kp (lsub_kp (lsub_sk (lsub_sk (lsub_nil))))))) JJ
        · replace KS := KS.2 h11
          rw [if_neg h11] at ez9
          refine ev_iload d_M_findPairs_146 rfl ?_
          refine ev_goto (tgt := 157) d_M_findPairs_148 rfl ?_
          subst ez9
          exact Ev.wk (lsub_kp (lsub_kp (lsub_kp (lsub_kp (lsub_sk (lsub_sk (lsub_nil))))))) JJ
      clear K
      refine ev_icmp_ge (tgt := 123) d_M_findPairs_116 rfl (fun h12 => ?_) (fun h12 => ?_)
      · replace KS := KS.1 h12
        rw [if_pos h12] at ez5
        have q4 := KS
        refine ev_aload_n d_M_findPairs_123 rfl rfl ?_
        refine ev_getR gf_M_61 rfl (by decide) d_M_findPairs_124 ?_
        refine ev_iload_n d_M_findPairs_127 rfl rfl ?_
        refine ev_iald rfl (by decide) (by decide) q4 d_M_findPairs_128 ?_
        subst ez5
        exact Ev.wk (lsub_kp (lsub_kp (lsub_kp (lsub_kp (lsub_sk (lsub_kp (lsub_nil))))))) JJ
      · replace KS := KS.2 h12
        rw [if_neg h12] at ez5
        refine ev_iload_n d_M_findPairs_119 rfl rfl ?_
        refine ev_goto (tgt := 129) d_M_findPairs_120 rfl ?_
        subst ez5
        exact Ev.wk (lsub_kp (lsub_kp (lsub_kp (lsub_kp (lsub_sk (lsub_kp (lsub_nil))))))) JJ
    · replace K := K.1 h2
      refine ev_aload_n d_M_findPairs_82 rfl rfl ?_
      refine ev_iload_n d_M_findPairs_83 rfl rfl ?_
      refine ev_iload_n d_M_findPairs_84 rfl rfl ?_
      refine ev_callV (as := [vI a2, vI a3]) (st := []) (k := 11) (i := 0) g_M_apart ml_M_252 rfl rfl (by decide) (by decide) d_M_findPairs_85 rfl rfl (Nat.le_of_ble_eq_true rfl) rfl (Nat.le_of_ble_eq_true rfl) ?_
      refine Ev.mono K ?_
      rintro _ s13 ⟨z14, rfl, K⟩
      show Ev none (d + 4) m_M_findPairs 88 [some (vR 11 0), some (vI a1), some (vI a2), some (vI a3), some (vI ((a1 &&& ((isl (1 : Int32) a2) ^^^ (-1 : Int32))) &&& ((isl (1 : Int32) a3) ^^^ (-1 : Int32)))), none] [vI z14] s13 post
      refine ev_aload_n d_M_findPairs_88 rfl rfl ?_
      refine ev_getR gf_M_58 rfl (by decide) d_M_findPairs_89 ?_
      refine ev_iload d_M_findPairs_92 rfl ?_
      obtain ⟨q15, K⟩ := K
      refine ev_iald rfl (by decide) (by decide) q15 d_M_findPairs_94 ?_
      refine ev_iadd d_M_findPairs_95 ?_
      refine ev_goto (tgt := 101) d_M_findPairs_96 rfl ?_
      refine ev_istore (L' := [some (vR 11 0), some (vI a1), some (vI a2), some (vI a3), some (vI ((a1 &&& ((isl (1 : Int32) a2) ^^^ (-1 : Int32))) &&& ((isl (1 : Int32) a3) ^^^ (-1 : Int32)))), some (vI (z14 + (s13.1 58 0 (((a1 &&& ((isl (1 : Int32) a2) ^^^ (-1 : Int32))) &&& ((isl (1 : Int32) a3) ^^^ (-1 : Int32))).toNatClampNeg))))]) d_M_findPairs_101 (by decide) rfl ?_
      refine ev_aload_n d_M_findPairs_103 rfl rfl ?_
      refine ev_getR gf_M_61 rfl (by decide) d_M_findPairs_104 ?_
      refine ev_iload_n d_M_findPairs_107 rfl rfl ?_
      refine ev_iload d_M_findPairs_108 rfl ?_
      refine ev_aload_n d_M_findPairs_110 rfl rfl ?_
      refine ev_getR gf_M_58 rfl (by decide) d_M_findPairs_111 ?_
      refine ev_iload_n d_M_findPairs_114 rfl rfl ?_
      obtain ⟨q16, K⟩ := K
      refine ev_iald rfl (by decide) (by decide) q16 d_M_findPairs_115 ?_
      obtain ⟨KS, K⟩ := K
      obtain ⟨z18, ez18⟩ : ∃ z : Int32, z = (if (s13.1 58 0 (a1.toNatClampNeg)) ≤ (z14 + (s13.1 58 0 (((a1 &&& ((isl (1 : Int32) a2) ^^^ (-1 : Int32))) &&& ((isl (1 : Int32) a3) ^^^ (-1 : Int32))).toNatClampNeg))) then (s13.1 59 0 (a1.toNatClampNeg)) else a3) := ⟨_, rfl⟩
      replace K := K z18 ez18
      have JJ : Ev none (d + 4) m_M_findPairs 129 [some (vR 11 0), some (vI a1), some (vI a2), some (vI a3), none, some (vI (z14 + (s13.1 58 0 (((a1 &&& ((isl (1 : Int32) a2) ^^^ (-1 : Int32))) &&& ((isl (1 : Int32) a3) ^^^ (-1 : Int32))).toNatClampNeg))))] [vI z18, vI a1, vR 59 0] s13 post := by
        obtain ⟨q19, K⟩ := K
        refine ev_iast rfl (by decide) (by decide) q19 d_M_findPairs_129 ?_
        refine ev_aload_n d_M_findPairs_130 rfl rfl ?_
        refine ev_getR gf_M_58 rfl (by decide) d_M_findPairs_131 ?_
        refine ev_iload_n d_M_findPairs_134 rfl rfl ?_
        refine ev_iload d_M_findPairs_135 rfl ?_
        refine ev_aload_n d_M_findPairs_137 rfl rfl ?_
        refine ev_getR gf_M_58 rfl (by decide) d_M_findPairs_138 ?_
        refine ev_iload_n d_M_findPairs_141 rfl rfl ?_
        obtain ⟨q20, K⟩ := K
        refine ev_iald rfl (by decide) (by decide) q20 d_M_findPairs_142 ?_
        obtain ⟨KS, K⟩ := K
        obtain ⟨z22, ez22⟩ : ∃ z : Int32, z = (if ((setI s13 59 0 (a1.toNatClampNeg) z18).1 58 0 (a1.toNatClampNeg)) ≤ (z14 + (s13.1 58 0 (((a1 &&& ((isl (1 : Int32) a2) ^^^ (-1 : Int32))) &&& ((isl (1 : Int32) a3) ^^^ (-1 : Int32))).toNatClampNeg))) then ((setI s13 59 0 (a1.toNatClampNeg) z18).1 58 0 (a1.toNatClampNeg)) else (z14 + (s13.1 58 0 (((a1 &&& ((isl (1 : Int32) a2) ^^^ (-1 : Int32))) &&& ((isl (1 : Int32) a3) ^^^ (-1 : Int32))).toNatClampNeg)))) := ⟨_, rfl⟩
        replace K := K z22 ez22
        have JJ : Ev none (d + 4) m_M_findPairs 157 [some (vR 11 0), some (vI a1), some (vI a2), some (vI a3), none, none] [vI z22, vI a1, vR 58 0] (setI s13 59 0 (a1.toNatClampNeg) z18) post := by
          obtain ⟨q23, K⟩ := K
          refine ev_iast rfl (by decide) (by decide) q23 d_M_findPairs_157 ?_
          refine ev_iinc (v := a3 + (1 : Int32)) (L' := [some (vR 11 0), some (vI a1), some (vI a2), some (vI (a3 + (1 : Int32))), none, none]) d_M_findPairs_158 rfl (congrArg (a3 + ·) (by decide)) (by decide) rfl ?_
          refine ev_goto (tgt := 53) d_M_findPairs_161 rfl ?_
          exact K
        clear K
        refine ev_icmp_ge (tgt := 151) d_M_findPairs_143 rfl (fun h24 => ?_) (fun h24 => ?_)
        · replace KS := KS.1 h24
          rw [if_pos h24] at ez22
          have q21 := KS
          refine ev_aload_n d_M_findPairs_151 rfl rfl ?_
          refine ev_getR gf_M_58 rfl (by decide) d_M_findPairs_152 ?_
          refine ev_iload_n d_M_findPairs_155 rfl rfl ?_
          refine ev_iald rfl (by decide) (by decide) q21 d_M_findPairs_156 ?_
          subst ez22
          exact Ev.wk (lsub_kp (lsub_kp (lsub_kp (lsub_kp (lsub_sk (lsub_sk (lsub_nil))))))) JJ
        · replace KS := KS.2 h24
          rw [if_neg h24] at ez22
          refine ev_iload d_M_findPairs_146 rfl ?_
          refine ev_goto (tgt := 157) d_M_findPairs_148 rfl ?_
          subst ez22
          exact Ev.wk (lsub_kp (lsub_kp (lsub_kp (lsub_kp (lsub_sk (lsub_sk (lsub_nil))))))) JJ
      clear K
      refine ev_icmp_ge (tgt := 123) d_M_findPairs_116 rfl (fun h25 => ?_) (fun h25 => ?_)
      · replace KS := KS.1 h25
        rw [if_pos h25] at ez18
        have q17 := KS
        refine ev_aload_n d_M_findPairs_123 rfl rfl ?_
        refine ev_getR gf_M_61 rfl (by decide) d_M_findPairs_124 ?_
        refine ev_iload_n d_M_findPairs_127 rfl rfl ?_
        refine ev_iald rfl (by decide) (by decide) q17 d_M_findPairs_128 ?_
        subst ez18
        exact Ev.wk (lsub_kp (lsub_kp (lsub_kp (lsub_kp (lsub_sk (lsub_kp (lsub_nil))))))) JJ
      · replace KS := KS.2 h25
        rw [if_neg h25] at ez18
        refine ev_iload_n d_M_findPairs_119 rfl rfl ?_
        refine ev_goto (tgt := 129) d_M_findPairs_120 rfl ?_
        subst ez18
        exact Ev.wk (lsub_kp (lsub_kp (lsub_kp (lsub_kp (lsub_sk (lsub_kp (lsub_nil))))))) JJ
set_option maxRecDepth 4000 in
theorem sg_M_gain_0 {d : Nat} {σ : ST} {a1 : Int32} {a2 : Int32} {a3 : Int32} {a4 : Int32} {post : Option AV → ST → Prop} (K : Ev none (d + 3) m_M_reads 0 [some (vR 11 0), none] [] σ (fun r s1 => ∃ z2 : Int32, r = some (vI z2) ∧ (((¬ (fp_M_areTwo s1 a1 a2) ∨ (¬ (fp_M_isSlow s1 a3) ∨ (¬ (fp_M_isSlow s1 a4)))) → (post (some (vI (-10002 : Int32))) s1)) ∧ (¬ (¬ (fp_M_areTwo s1 a1 a2) ∨ (¬ (fp_M_isSlow s1 a3) ∨ (¬ (fp_M_isSlow s1 a4)))) → (Ev none (d + 3) m_M_gainOf 0 [some (vR 11 0), some (vI a1), some (vI a2), some (vI a3), some (vI a4), none, none, none] [] s1 (fun r s5 => ∃ z6 : Int32, r = some (vI z6) ∧ (post (some (vI z6)) s5))))))) : Ev none (d + 4) m_M_gain 0 [some (vR 11 0), some (vI a1), some (vI a2), some (vI a3), some (vI a4)] [] σ post := by
  refine ev_aload_n d_M_gain_0 rfl rfl ?_
  refine ev_callV (as := []) (st := []) (k := 11) (i := 0) g_M_reads ml_M_131 rfl rfl (by decide) (by decide) d_M_gain_1 rfl rfl (Nat.le_of_ble_eq_true rfl) rfl (Nat.le_of_ble_eq_true rfl) ?_
  refine Ev.mono K ?_
  rintro _ s1 ⟨z2, rfl, K⟩
  show Ev none (d + 4) m_M_gain 4 [some (vR 11 0), some (vI a1), some (vI a2), some (vI a3), some (vI a4)] [vI z2] s1 post
  refine ev_pop d_M_gain_4 rfl ?_
  refine ev_iload_n d_M_gain_5 rfl rfl ?_
  refine ev_iload_n d_M_gain_6 rfl rfl ?_
  refine ev_callS (as := [vI a1, vI a2]) (st := []) g_M_areTwo ml_M_223 d_M_gain_7 rfl rfl (Nat.le_of_ble_eq_true rfl) rfl (Nat.le_of_ble_eq_true rfl) ?_
  refine f_M_areTwo  ?_
  show Ev none (d + 4) m_M_gain 10 [some (vR 11 0), some (vI a1), some (vI a2), some (vI a3), some (vI a4)] [vI (bi (fp_M_areTwo s1 a1 a2))] s1 post
  obtain ⟨w3, e4⟩ : ∃ w : Int32, w = bi (¬ (fp_M_areTwo s1 a1 a2) ∨ (¬ (fp_M_isSlow s1 a3) ∨ (¬ (fp_M_isSlow s1 a4)))) := ⟨_, rfl⟩
  have J1 : w3 = 1 → Ev none (d + 4) m_M_gain 40 [some (vR 11 0), some (vI a1), some (vI a2), some (vI a3), some (vI a4)] [] s1 post := by
    intro e41
    replace K := K.1 (bi_1.mp ((e4.symm).trans e41))
    refine ev_sipush (v := -10002) d_M_gain_40 (by decide) ?_
    exact ev_ret (r := some (vI (-10002 : Int32))) d_M_gain_43 rfl rfl K
  have J0 : w3 = 0 → Ev none (d + 4) m_M_gain 28 [some (vR 11 0), some (vI a1), some (vI a2), some (vI a3), some (vI a4)] [] s1 post := by
    intro e40
    replace K := K.2 (bi_0.mp ((e4.symm).trans e40))
    refine ev_aload_n d_M_gain_28 rfl rfl ?_
    refine ev_iload_n d_M_gain_29 rfl rfl ?_
    refine ev_iload_n d_M_gain_30 rfl rfl ?_
    refine ev_iload_n d_M_gain_31 rfl rfl ?_
    refine ev_iload d_M_gain_32 rfl ?_
    refine ev_callV (as := [vI a1, vI a2, vI a3, vI a4]) (st := []) (k := 11) (i := 0) g_M_gainOf ml_M_235 rfl rfl (by decide) (by decide) d_M_gain_34 rfl rfl (Nat.le_of_ble_eq_true rfl) rfl (Nat.le_of_ble_eq_true rfl) ?_
    refine Ev.mono K ?_
    rintro _ s5 ⟨z6, rfl, K⟩
    show Ev none (d + 4) m_M_gain 37 [some (vR 11 0), some (vI a1), some (vI a2), some (vI a3), some (vI a4)] [vI z6] s5 post
    refine ev_goto (tgt := 43) d_M_gain_37 rfl ?_
    exact ev_ret (r := some (vI z6)) d_M_gain_43 rfl rfl K
  clear K
  refine ev_ifb_eq (tgt := 40) d_M_gain_10 rfl (fun h7 => ?_) (fun h7 => ?_)
  · rw [b6f h7] at e4
    exact J1 e4
  · rw [b6t h7] at e4
    refine ev_iload_n d_M_gain_13 rfl rfl ?_
    refine ev_callS (as := [vI a3]) (st := []) g_M_isSlow ml_M_232 d_M_gain_14 rfl rfl (Nat.le_of_ble_eq_true rfl) rfl (Nat.le_of_ble_eq_true rfl) ?_
    refine f_M_isSlow  ?_
    show Ev none (d + 4) m_M_gain 17 [some (vR 11 0), some (vI a1), some (vI a2), some (vI a3), some (vI a4)] [vI (bi (fp_M_isSlow s1 a3))] s1 post
    refine ev_ifb_eq (tgt := 40) d_M_gain_17 rfl (fun h8 => ?_) (fun h8 => ?_)
    · rw [b6f h8] at e4
      exact J1 e4
    · rw [b6t h8] at e4
      refine ev_iload d_M_gain_20 rfl ?_
      refine ev_callS (as := [vI a4]) (st := []) g_M_isSlow ml_M_232 d_M_gain_22 rfl rfl (Nat.le_of_ble_eq_true rfl) rfl (Nat.le_of_ble_eq_true rfl) ?_
      refine f_M_isSlow  ?_
      show Ev none (d + 4) m_M_gain 25 [some (vR 11 0), some (vI a1), some (vI a2), some (vI a3), some (vI a4)] [vI (bi (fp_M_isSlow s1 a4))] s1 post
      refine ev_ifb_eq (tgt := 40) d_M_gain_25 rfl (fun h9 => ?_) (fun h9 => ?_)
      · rw [bi_t h9] at e4
        exact J1 e4
      · rw [bi_f (not_not_intro h9)] at e4
        exact J0 e4
set_option maxRecDepth 4000 in
theorem sg_M_isRest_0 {d : Nat} {σ : ST} {a1 : Int32} {a2 : Int32} {a3 : Int32} {a4 : Int32} {post : Option AV → ST → Prop} (K : Ev none (d + 4) m_M_isRest 6 [some (vR 11 0), some (vI a1), some (vI a2), some (vI a3), some (vI a4), some (vI (1 : Int32)), some (vI (0 : Int32))] [] σ post) : Ev none (d + 4) m_M_isRest 0 [some (vR 11 0), some (vI a1), some (vI a2), some (vI a3), some (vI a4), none, none] [] σ post := by
  refine ev_iconst (v := 1) d_M_isRest_0 (by decide) ?_
  refine ev_istore (L' := [some (vR 11 0), some (vI a1), some (vI a2), some (vI a3), some (vI a4), some (vI (1 : Int32)), none]) d_M_isRest_1 (by decide) rfl ?_
  refine ev_iconst (v := 0) d_M_isRest_3 (by decide) ?_
  refine ev_istore (L' := [some (vR 11 0), some (vI a1), some (vI a2), some (vI a3), some (vI a4), some (vI (1 : Int32)), some (vI (0 : Int32))]) d_M_isRest_4 (by decide) rfl ?_
  exact K
set_option maxRecDepth 4000 in
theorem sg_M_isRest_6 {d : Nat} {σ : ST} {a1 : Int32} {a2 : Int32} {a3 : Int32} {a4 : Int32} {a5 : Int32} {a6 : Int32} {post : Option AV → ST → Prop} (K : (((4 : Int32) ≤ a6) → ((a5 = 0 ∨ a5 = 1) ∧ post (some (vI a5)) σ)) ∧ (¬ ((4 : Int32) ≤ a6) → (((a5 = 0) → (Ev none (d + 4) m_M_isRest 6 [some (vR 11 0), some (vI a1), some (vI a2), some (vI a3), some (vI a4), some (vI (0 : Int32)), some (vI (a6 + (1 : Int32)))] [] σ post)) ∧ (¬ (a5 = 0) → (Ev none (d + 3) m_M_gainOf 0 [some (vR 11 0), some (vI a1), some (vI a2), some (vI a6), some (vI a4), none, none, none] [] σ (fun r s4 => ∃ z5 : Int32, r = some (vI z5) ∧ (Ev none (d + 3) m_M_gainOf 0 [some (vR 11 0), some (vI a1), some (vI a2), some (vI a3), some (vI a4), none, none, none] [] s4 (fun r s6 => ∃ z7 : Int32, r = some (vI z7) ∧ (((z7 < z5) → (Ev none (d + 4) m_M_isRest 6 [some (vR 11 0), some (vI a1), some (vI a2), some (vI a3), some (vI a4), some (vI (0 : Int32)), some (vI (a6 + (1 : Int32)))] [] s6 post)) ∧ (¬ (z7 < z5) → (Ev none (d + 3) m_M_gainOf 0 [some (vR 11 0), some (vI a2), some (vI a1), some (vI a6), some (vI a3), none, none, none] [] s6 (fun r s9 => ∃ z10 : Int32, r = some (vI z10) ∧ (Ev none (d + 3) m_M_gainOf 0 [some (vR 11 0), some (vI a2), some (vI a1), some (vI a4), some (vI a3), none, none, none] [] s9 (fun r s11 => ∃ z12 : Int32, r = some (vI z12) ∧ (∀ z13 : Int32, z13 = (bi (¬ (z12 < z10))) → (Ev none (d + 4) m_M_isRest 6 [some (vR 11 0), some (vI a1), some (vI a2), some (vI a3), some (vI a4), some (vI z13), some (vI (a6 + (1 : Int32)))] [] s11 post)))))))))))))))) : Ev none (d + 4) m_M_isRest 6 [some (vR 11 0), some (vI a1), some (vI a2), some (vI a3), some (vI a4), some (vI a5), some (vI a6)] [] σ post := by
  refine ev_iload d_M_isRest_6 rfl ?_
  refine ev_iconst (v := 4) d_M_isRest_8 (by decide) ?_
  refine ev_icmp_ge (tgt := 73) d_M_isRest_9 rfl (fun h1 => ?_) (fun h1 => ?_)
  · replace K := K.1 h1
    refine ev_iload d_M_isRest_73 rfl ?_
    obtain ⟨q2, K⟩ := K
    exact ev_ret (r := some (vI a5)) d_M_isRest_75 rfl ⟨rfl, q2⟩ K
  · replace K := K.2 h1
    refine ev_iload d_M_isRest_12 rfl ?_
    refine ev_if_eq (tgt := 64) d_M_isRest_14 rfl (fun h3 => ?_) (fun h3 => ?_)
    · replace K := K.1 h3
      refine ev_iconst (v := 0) d_M_isRest_64 (by decide) ?_
      refine ev_istore (L' := [some (vR 11 0), some (vI a1), some (vI a2), some (vI a3), some (vI a4), some (vI (0 : Int32)), some (vI a6)]) d_M_isRest_65 (by decide) rfl ?_
      refine ev_iinc (v := a6 + (1 : Int32)) (L' := [some (vR 11 0), some (vI a1), some (vI a2), some (vI a3), some (vI a4), some (vI (0 : Int32)), some (vI (a6 + (1 : Int32)))]) d_M_isRest_67 rfl (congrArg (a6 + ·) (by decide)) (by decide) rfl ?_
      refine ev_goto (tgt := 6) d_M_isRest_70 rfl ?_
      exact K
    · replace K := K.2 h3
      refine ev_aload_n d_M_isRest_17 rfl rfl ?_
      refine ev_iload_n d_M_isRest_18 rfl rfl ?_
      refine ev_iload_n d_M_isRest_19 rfl rfl ?_
      refine ev_iload d_M_isRest_20 rfl ?_
      refine ev_iload d_M_isRest_22 rfl ?_
      refine ev_callV (as := [vI a1, vI a2, vI a6, vI a4]) (st := []) (k := 11) (i := 0) g_M_gainOf ml_M_235 rfl rfl (by decide) (by decide) d_M_isRest_24 rfl rfl (Nat.le_of_ble_eq_true rfl) rfl (Nat.le_of_ble_eq_true rfl) ?_
      refine Ev.mono K ?_
      rintro _ s4 ⟨z5, rfl, K⟩
      show Ev none (d + 4) m_M_isRest 27 [some (vR 11 0), some (vI a1), some (vI a2), some (vI a3), some (vI a4), some (vI a5), some (vI a6)] [vI z5] s4 post
      refine ev_aload_n d_M_isRest_27 rfl rfl ?_
      refine ev_iload_n d_M_isRest_28 rfl rfl ?_
      refine ev_iload_n d_M_isRest_29 rfl rfl ?_
      refine ev_iload_n d_M_isRest_30 rfl rfl ?_
      refine ev_iload d_M_isRest_31 rfl ?_
      refine ev_callV (as := [vI a1, vI a2, vI a3, vI a4]) (st := [vI z5]) (k := 11) (i := 0) g_M_gainOf ml_M_235 rfl rfl (by decide) (by decide) d_M_isRest_33 rfl rfl (Nat.le_of_ble_eq_true rfl) rfl (Nat.le_of_ble_eq_true rfl) ?_
      refine Ev.mono K ?_
      rintro _ s6 ⟨z7, rfl, K⟩
      show Ev none (d + 4) m_M_isRest 36 [some (vR 11 0), some (vI a1), some (vI a2), some (vI a3), some (vI a4), some (vI a5), some (vI a6)] [vI z7, vI z5] s6 post
      refine ev_icmp_gt (tgt := 64) d_M_isRest_36 rfl (fun h8 => ?_) (fun h8 => ?_)
      · replace K := K.1 h8
        refine ev_iconst (v := 0) d_M_isRest_64 (by decide) ?_
        refine ev_istore (L' := [some (vR 11 0), some (vI a1), some (vI a2), some (vI a3), some (vI a4), some (vI (0 : Int32)), some (vI a6)]) d_M_isRest_65 (by decide) rfl ?_
        refine ev_iinc (v := a6 + (1 : Int32)) (L' := [some (vR 11 0), some (vI a1), some (vI a2), some (vI a3), some (vI a4), some (vI (0 : Int32)), some (vI (a6 + (1 : Int32)))]) d_M_isRest_67 rfl (congrArg (a6 + ·) (by decide)) (by decide) rfl ?_
        refine ev_goto (tgt := 6) d_M_isRest_70 rfl ?_
        exact K
      · replace K := K.2 h8
        refine ev_aload_n d_M_isRest_39 rfl rfl ?_
        refine ev_iload_n d_M_isRest_40 rfl rfl ?_
        refine ev_iload_n d_M_isRest_41 rfl rfl ?_
        refine ev_iload d_M_isRest_42 rfl ?_
        refine ev_iload_n d_M_isRest_44 rfl rfl ?_
        refine ev_callV (as := [vI a2, vI a1, vI a6, vI a3]) (st := []) (k := 11) (i := 0) g_M_gainOf ml_M_235 rfl rfl (by decide) (by decide) d_M_isRest_45 rfl rfl (Nat.le_of_ble_eq_true rfl) rfl (Nat.le_of_ble_eq_true rfl) ?_
        refine Ev.mono K ?_
        rintro _ s9 ⟨z10, rfl, K⟩
        show Ev none (d + 4) m_M_isRest 48 [some (vR 11 0), some (vI a1), some (vI a2), some (vI a3), some (vI a4), some (vI a5), some (vI a6)] [vI z10] s9 post
        refine ev_aload_n d_M_isRest_48 rfl rfl ?_
        refine ev_iload_n d_M_isRest_49 rfl rfl ?_
        refine ev_iload_n d_M_isRest_50 rfl rfl ?_
        refine ev_iload d_M_isRest_51 rfl ?_
        refine ev_iload_n d_M_isRest_53 rfl rfl ?_
        refine ev_callV (as := [vI a2, vI a1, vI a4, vI a3]) (st := [vI z10]) (k := 11) (i := 0) g_M_gainOf ml_M_235 rfl rfl (by decide) (by decide) d_M_isRest_54 rfl rfl (Nat.le_of_ble_eq_true rfl) rfl (Nat.le_of_ble_eq_true rfl) ?_
        refine Ev.mono K ?_
        rintro _ s11 ⟨z12, rfl, K⟩
        show Ev none (d + 4) m_M_isRest 57 [some (vR 11 0), some (vI a1), some (vI a2), some (vI a3), some (vI a4), some (vI a5), some (vI a6)] [vI z12, vI z10] s11 post
        obtain ⟨z13, ez13⟩ : ∃ z : Int32, z = (bi (¬ (z12 < z10))) := ⟨_, rfl⟩
        replace K := K z13 ez13
        have JJ : Ev none (d + 4) m_M_isRest 65 [some (vR 11 0), some (vI a1), some (vI a2), some (vI a3), some (vI a4), none, some (vI a6)] [vI z13] s11 post := by
          refine ev_istore (L' := [some (vR 11 0), some (vI a1), some (vI a2), some (vI a3), some (vI a4), some (vI z13), some (vI a6)]) d_M_isRest_65 (by decide) rfl ?_
          refine ev_iinc (v := a6 + (1 : Int32)) (L' := [some (vR 11 0), some (vI a1), some (vI a2), some (vI a3), some (vI a4), some (vI z13), some (vI (a6 + (1 : Int32)))]) d_M_isRest_67 rfl (congrArg (a6 + ·) (by decide)) (by decide) rfl ?_
          refine ev_goto (tgt := 6) d_M_isRest_70 rfl ?_
          exact K
        clear K
        refine ev_icmp_gt (tgt := 64) d_M_isRest_57 rfl (fun h14 => ?_) (fun h14 => ?_)
        · rw [bi_f (not_not_intro h14)] at ez13
          refine ev_iconst (v := 0) d_M_isRest_64 (by decide) ?_
          subst ez13
          exact Ev.wk (lsub_kp (lsub_kp (lsub_kp (lsub_kp (lsub_kp (lsub_sk (lsub_kp (lsub_nil)))))))) JJ
        · rw [bi_t h14] at ez13
          refine ev_iconst (v := 1) d_M_isRest_60 (by decide) ?_
          refine ev_goto (tgt := 65) d_M_isRest_61 rfl ?_
          subst ez13
          exact Ev.wk (lsub_kp (lsub_kp (lsub_kp (lsub_kp (lsub_kp (lsub_sk (lsub_kp (lsub_nil)))))))) JJ
set_option maxRecDepth 4000 in
theorem sg_M_meanOf_0 {d : Nat} {σ : ST} {a1 : Int32} {a2 : Int32} {post : Option AV → ST → Prop} (K : Ev none (d + 4) m_M_meanOf 5 [some (vR 11 0), some (vI a1), some (vI a2), some (vJ (0 : Int64)), none, some (vI (0 : Int32)), none] [] σ post) : Ev none (d + 4) m_M_meanOf 0 [some (vR 11 0), some (vI a1), some (vI a2), none, none, none, none] [] σ post := by
  refine ev_lconst (v := 0) d_M_meanOf_0 (by decide) ?_
  refine ev_lstore_n (L' := [some (vR 11 0), some (vI a1), some (vI a2), some (vJ (0 : Int64)), none, none, none]) d_M_meanOf_1 rfl (by decide) rfl ?_
  refine ev_iconst (v := 0) d_M_meanOf_2 (by decide) ?_
  refine ev_istore (L' := [some (vR 11 0), some (vI a1), some (vI a2), some (vJ (0 : Int64)), none, some (vI (0 : Int32)), none]) d_M_meanOf_3 (by decide) rfl ?_
  exact K
set_option maxRecDepth 4000 in
theorem sg_M_meanOf_5 {d : Nat} {σ : ST} {a1 : Int32} {a2 : Int32} {a3 : Int64} {a5 : Int32} {post : Option AV → ST → Prop} (K : (((σ.1 11 0 8) ≤ a5) → (Ev none (d + 3) m_M_ones 0 [some (vI a1), none, none] [] σ (fun r s2 => ∃ z3 : Int32, r = some (vI z3) ∧ (Ev none (d + 3) m_M_part 0 [some (vJ a3), none, some (vJ (lsl (1 : Int64) ((2 : Int32) * z3))), none, some (vI a2), none, none, none, none, none, none] [] s2 (fun r s4 => ∃ z5 : Int64, r = some (vJ z5) ∧ (post (some (vJ z5)) s4)))))) ∧ (¬ ((σ.1 11 0 8) ≤ a5) → (Ev none (d + 4) m_M_meanOf 17 [some (vR 11 0), some (vI a1), some (vI a2), some (vJ a3), none, some (vI a5), some (vI (0 : Int32))] [] σ post))) : Ev none (d + 4) m_M_meanOf 5 [some (vR 11 0), some (vI a1), some (vI a2), some (vJ a3), none, some (vI a5), none] [] σ post := by
  refine ev_iload d_M_meanOf_5 rfl ?_
  refine ev_aload_n d_M_meanOf_7 rfl rfl ?_
  refine ev_getI gf_M_113 rfl (by decide) d_M_meanOf_8 ?_
  refine ev_icmp_ge (tgt := 79) d_M_meanOf_11 rfl (fun h1 => ?_) (fun h1 => ?_)
  · replace K := K.1 h1
    refine ev_lload_n d_M_meanOf_79 rfl rfl ?_
    refine ev_lconst (v := 1) d_M_meanOf_80 (by decide) ?_
    refine ev_iconst (v := 2) d_M_meanOf_81 (by decide) ?_
    refine ev_iload_n d_M_meanOf_82 rfl rfl ?_
    refine ev_callS (as := [vI a1]) (st := [vI (2 : Int32), vJ (1 : Int64), vJ a3]) g_M_ones ml_M_246 d_M_meanOf_83 rfl rfl (Nat.le_of_ble_eq_true rfl) rfl (Nat.le_of_ble_eq_true rfl) ?_
    refine Ev.mono K ?_
    rintro _ s2 ⟨z3, rfl, K⟩
    show Ev none (d + 4) m_M_meanOf 86 [some (vR 11 0), some (vI a1), some (vI a2), some (vJ a3), none, some (vI a5), none] [vI z3, vI (2 : Int32), vJ (1 : Int64), vJ a3] s2 post
    refine ev_imul d_M_meanOf_86 ?_
    refine ev_lshl d_M_meanOf_87 ?_
    refine ev_iload_n d_M_meanOf_88 rfl rfl ?_
    refine ev_callS (as := [vJ a3, vJ (lsl (1 : Int64) ((2 : Int32) * z3)), vI a2]) (st := []) g_M_part ml_M_285 d_M_meanOf_89 rfl rfl (Nat.le_of_ble_eq_true rfl) rfl (Nat.le_of_ble_eq_true rfl) ?_
    refine Ev.mono K ?_
    rintro _ s4 ⟨z5, rfl, K⟩
    show Ev none (d + 4) m_M_meanOf 92 [some (vR 11 0), some (vI a1), some (vI a2), some (vJ a3), none, some (vI a5), none] [vJ z5] s4 post
    exact ev_ret (r := some (vJ z5)) d_M_meanOf_92 rfl rfl K
  · replace K := K.2 h1
    refine ev_iconst (v := 0) d_M_meanOf_14 (by decide) ?_
    refine ev_istore (L' := [some (vR 11 0), some (vI a1), some (vI a2), some (vJ a3), none, some (vI a5), some (vI (0 : Int32))]) d_M_meanOf_15 (by decide) rfl ?_
    exact K
set_option maxRecDepth 4000 in
theorem sg_M_meanOf_17 {d : Nat} {σ : ST} {a1 : Int32} {a2 : Int32} {a3 : Int64} {a5 : Int32} {a6 : Int32} {post : Option AV → ST → Prop} (K : (((64 : Int32) ≤ a6) → (Ev none (d + 4) m_M_meanOf 5 [some (vR 11 0), some (vI a1), some (vI a2), some (vJ a3), none, some (vI (a5 + (1 : Int32))), none] [] σ post)) ∧ (¬ ((64 : Int32) ≤ a6) → (((fp_M_isRead σ a5) → ((((a6 &&& (a1 ^^^ (-1 : Int32))) = 0) → (Ev none (d + 3) m_M_quarters 0 [some (vR 11 0), some (vI a1), some (vI a6), none, none, none] [] σ (fun r s4 => ∃ z5 : Int64, r = some (vJ z5) ∧ (Ev none (d + 3) m_M_togetherSo 0 [some (vR 11 0), some (vI a1), some (vI a6), some (vI a5), none, none, none] [] s4 (fun r s6 => ∃ z7 : Int32, r = some (vI z7) ∧ (Ev none (d + 4) m_M_meanOf 17 [some (vR 11 0), some (vI a1), some (vI a2), some (vJ (a3 + (z5 * (Int32.toInt64 z7)))), none, some (vI a5), some (vI (a6 + (1 : Int32)))] [] s6 post)))))) ∧ (¬ ((a6 &&& (a1 ^^^ (-1 : Int32))) = 0) → (Ev none (d + 4) m_M_meanOf 17 [some (vR 11 0), some (vI a1), some (vI a2), some (vJ (a3 + (0 : Int64))), none, some (vI a5), some (vI (a6 + (1 : Int32)))] [] σ post)))) ∧ (¬ (fp_M_isRead σ a5) → (Ev none (d + 4) m_M_meanOf 5 [some (vR 11 0), some (vI a1), some (vI a2), some (vJ a3), none, some (vI (a5 + (1 : Int32))), none] [] σ post))))) : Ev none (d + 4) m_M_meanOf 17 [some (vR 11 0), some (vI a1), some (vI a2), some (vJ a3), none, some (vI a5), some (vI a6)] [] σ post := by
  refine ev_iload d_M_meanOf_17 rfl ?_
  refine ev_bipush (v := 64) d_M_meanOf_19 (by decide) ?_
  refine ev_icmp_ge (tgt := 73) d_M_meanOf_21 rfl (fun h1 => ?_) (fun h1 => ?_)
  · replace K := K.1 h1
    refine ev_iinc (v := a5 + (1 : Int32)) (L' := [some (vR 11 0), some (vI a1), some (vI a2), some (vJ a3), none, some (vI (a5 + (1 : Int32))), some (vI a6)]) d_M_meanOf_73 rfl (congrArg (a5 + ·) (by decide)) (by decide) rfl ?_
    refine ev_goto (tgt := 5) d_M_meanOf_76 rfl ?_
    exact Ev.wk (lsub_kp (lsub_kp (lsub_kp (lsub_kp (lsub_sk (lsub_kp (lsub_sk (lsub_nil)))))))) K
  · replace K := K.2 h1
    refine ev_aload_n d_M_meanOf_24 rfl rfl ?_
    refine ev_iload d_M_meanOf_25 rfl ?_
    refine ev_callV (as := [vI a5]) (st := []) (k := 11) (i := 0) g_M_isRead ml_M_188 rfl rfl (by decide) (by decide) d_M_meanOf_27 rfl rfl (Nat.le_of_ble_eq_true rfl) rfl (Nat.le_of_ble_eq_true rfl) ?_
    refine f_M_isRead  ?_
    show Ev none (d + 4) m_M_meanOf 30 [some (vR 11 0), some (vI a1), some (vI a2), some (vJ a3), none, some (vI a5), some (vI a6)] [vI (bi (fp_M_isRead σ a5))] σ post
    refine ev_ifb_eq (tgt := 73) d_M_meanOf_30 rfl (fun h2 => ?_) (fun h2 => ?_)
    · replace K := K.2 h2
      refine ev_iinc (v := a5 + (1 : Int32)) (L' := [some (vR 11 0), some (vI a1), some (vI a2), some (vJ a3), none, some (vI (a5 + (1 : Int32))), some (vI a6)]) d_M_meanOf_73 rfl (congrArg (a5 + ·) (by decide)) (by decide) rfl ?_
      refine ev_goto (tgt := 5) d_M_meanOf_76 rfl ?_
      exact Ev.wk (lsub_kp (lsub_kp (lsub_kp (lsub_kp (lsub_sk (lsub_kp (lsub_sk (lsub_nil)))))))) K
    · replace K := K.1 h2
      refine ev_lload_n d_M_meanOf_33 rfl rfl ?_
      refine ev_iload d_M_meanOf_34 rfl ?_
      refine ev_iload_n d_M_meanOf_36 rfl rfl ?_
      refine ev_iconst (v := -1) d_M_meanOf_37 (by decide) ?_
      refine ev_ixor d_M_meanOf_38 ?_
      refine ev_iand d_M_meanOf_39 ?_
      refine ev_if_ne (tgt := 64) d_M_meanOf_40 rfl (fun h3 => ?_) (fun h3 => ?_)
      · replace K := K.2 h3
        refine ev_lconst (v := 0) d_M_meanOf_64 (by decide) ?_
        refine ev_ladd d_M_meanOf_65 ?_
        refine ev_lstore_n (L' := [some (vR 11 0), some (vI a1), some (vI a2), some (vJ (a3 + (0 : Int64))), none, some (vI a5), some (vI a6)]) d_M_meanOf_66 rfl (by decide) rfl ?_
        refine ev_iinc (v := a6 + (1 : Int32)) (L' := [some (vR 11 0), some (vI a1), some (vI a2), some (vJ (a3 + (0 : Int64))), none, some (vI a5), some (vI (a6 + (1 : Int32)))]) d_M_meanOf_67 rfl (congrArg (a6 + ·) (by decide)) (by decide) rfl ?_
        refine ev_goto (tgt := 17) d_M_meanOf_70 rfl ?_
        exact K
      · replace K := K.1 h3
        refine ev_aload_n d_M_meanOf_43 rfl rfl ?_
        refine ev_iload_n d_M_meanOf_44 rfl rfl ?_
        refine ev_iload d_M_meanOf_45 rfl ?_
        refine ev_callV (as := [vI a1, vI a6]) (st := [vJ a3]) (k := 11) (i := 0) g_M_quarters ml_M_274 rfl rfl (by decide) (by decide) d_M_meanOf_47 rfl rfl (Nat.le_of_ble_eq_true rfl) rfl (Nat.le_of_ble_eq_true rfl) ?_
        refine Ev.mono K ?_
        rintro _ s4 ⟨z5, rfl, K⟩
        show Ev none (d + 4) m_M_meanOf 50 [some (vR 11 0), some (vI a1), some (vI a2), some (vJ a3), none, some (vI a5), some (vI a6)] [vJ z5, vJ a3] s4 post
        refine ev_aload_n d_M_meanOf_50 rfl rfl ?_
        refine ev_iload_n d_M_meanOf_51 rfl rfl ?_
        refine ev_iload d_M_meanOf_52 rfl ?_
        refine ev_iload d_M_meanOf_54 rfl ?_
        refine ev_callV (as := [vI a1, vI a6, vI a5]) (st := [vJ z5, vJ a3]) (k := 11) (i := 0) g_M_togetherSo ml_M_278 rfl rfl (by decide) (by decide) d_M_meanOf_56 rfl rfl (Nat.le_of_ble_eq_true rfl) rfl (Nat.le_of_ble_eq_true rfl) ?_
        refine Ev.mono K ?_
        rintro _ s6 ⟨z7, rfl, K⟩
        show Ev none (d + 4) m_M_meanOf 59 [some (vR 11 0), some (vI a1), some (vI a2), some (vJ a3), none, some (vI a5), some (vI a6)] [vI z7, vJ z5, vJ a3] s6 post
        refine ev_i2l d_M_meanOf_59 ?_
        refine ev_lmul d_M_meanOf_60 ?_
        refine ev_goto (tgt := 65) d_M_meanOf_61 rfl ?_
        refine ev_ladd d_M_meanOf_65 ?_
        refine ev_lstore_n (L' := [some (vR 11 0), some (vI a1), some (vI a2), some (vJ (a3 + (z5 * (Int32.toInt64 z7)))), none, some (vI a5), some (vI a6)]) d_M_meanOf_66 rfl (by decide) rfl ?_
        refine ev_iinc (v := a6 + (1 : Int32)) (L' := [some (vR 11 0), some (vI a1), some (vI a2), some (vJ (a3 + (z5 * (Int32.toInt64 z7)))), none, some (vI a5), some (vI (a6 + (1 : Int32)))]) d_M_meanOf_67 rfl (congrArg (a6 + ·) (by decide)) (by decide) rfl ?_
        refine ev_goto (tgt := 17) d_M_meanOf_70 rfl ?_
        exact K
set_option maxRecDepth 4000 in
theorem sg_M_pacesOf_0 {d : Nat} {σ : ST} {a1 : Int32} {a2 : Int32} {post : Option AV → ST → Prop} (K : Ev none (d + 4) m_M_pacesOf 5 [some (vR 11 0), some (vI a1), some (vI a2), some (vI (0 : Int32)), some (vI (1 : Int32)), none, none, none, none, none, none] [] σ post) : Ev none (d + 4) m_M_pacesOf 0 [some (vR 11 0), some (vI a1), some (vI a2), none, none, none, none, none, none, none, none] [] σ post := by
  refine ev_iconst (v := 0) d_M_pacesOf_0 (by decide) ?_
  refine ev_istore_n (L' := [some (vR 11 0), some (vI a1), some (vI a2), some (vI (0 : Int32)), none, none, none, none, none, none, none]) d_M_pacesOf_1 rfl (by decide) rfl ?_
  refine ev_iconst (v := 1) d_M_pacesOf_2 (by decide) ?_
  refine ev_istore (L' := [some (vR 11 0), some (vI a1), some (vI a2), some (vI (0 : Int32)), some (vI (1 : Int32)), none, none, none, none, none, none]) d_M_pacesOf_3 (by decide) rfl ?_
  exact K
set_option maxRecDepth 4000 in
theorem sg_M_pacesOf_5 {d : Nat} {σ : ST} {a1 : Int32} {a2 : Int32} {a3 : Int32} {a4 : Int32} {post : Option AV → ST → Prop} (K : (((10 : Int32) ≤ a4) → (post (some (vI a3)) σ)) ∧ (¬ ((10 : Int32) ≤ a4) → (Ev none (d + 4) m_M_pacesOf 18 [some (vR 11 0), some (vI a1), some (vI a2), some (vI a3), some (vI a4), some (vI (1 : Int32)), some (vI (0 : Int32)), none, none, none, none] [] σ post))) : Ev none (d + 4) m_M_pacesOf 5 [some (vR 11 0), some (vI a1), some (vI a2), some (vI a3), some (vI a4), none, none, none, none, none, none] [] σ post := by
  refine ev_iload d_M_pacesOf_5 rfl ?_
  refine ev_bipush (v := 10) d_M_pacesOf_7 (by decide) ?_
  refine ev_icmp_ge (tgt := 177) d_M_pacesOf_9 rfl (fun h1 => ?_) (fun h1 => ?_)
  · replace K := K.1 h1
    refine ev_iload_n d_M_pacesOf_177 rfl rfl ?_
    exact ev_ret (r := some (vI a3)) d_M_pacesOf_178 rfl rfl K
  · replace K := K.2 h1
    refine ev_iconst (v := 1) d_M_pacesOf_12 (by decide) ?_
    refine ev_istore (L' := [some (vR 11 0), some (vI a1), some (vI a2), some (vI a3), some (vI a4), some (vI (1 : Int32)), none, none, none, none, none]) d_M_pacesOf_13 (by decide) rfl ?_
    refine ev_iconst (v := 0) d_M_pacesOf_15 (by decide) ?_
    refine ev_istore (L' := [some (vR 11 0), some (vI a1), some (vI a2), some (vI a3), some (vI a4), some (vI (1 : Int32)), some (vI (0 : Int32)), none, none, none, none]) d_M_pacesOf_16 (by decide) rfl ?_
    exact K
set_option maxRecDepth 4000 in
theorem sg_M_pacesOf_18 {d : Nat} {σ : ST} {a1 : Int32} {a2 : Int32} {a3 : Int32} {a4 : Int32} {a5 : Int32} {a6 : Int32} {post : Option AV → ST → Prop} (K : (((σ.1 11 0 29) ≤ a6) → (∀ z4 : Int32, z4 = (if a5 = 0 then (0 : Int32) else (isl (1 : Int32) (a4 - (1 : Int32)))) → (Ev none (d + 4) m_M_pacesOf 5 [some (vR 11 0), some (vI a1), some (vI a2), some (vI (a3 ||| z4)), some (vI (a4 + (1 : Int32))), none, none, none, none, none, none] [] σ post))) ∧ (¬ ((σ.1 11 0 29) ≤ a6) → ((vp_in ((3 : Int32) * a6) 24) ∧ ((vp_in (((3 : Int32) * a6) + (1 : Int32)) 24) ∧ (((((σ.1 11 0 8) ≤ (σ.1 60 0 (((3 : Int32) * a6).toNatClampNeg))) → True) ∧ (¬ ((σ.1 11 0 8) ≤ (σ.1 60 0 (((3 : Int32) * a6).toNatClampNeg))) → (vp_in (σ.1 60 0 (((3 : Int32) * a6).toNatClampNeg)) 8))) ∧ ((((σ.1 11 0 8) ≤ (σ.1 60 0 (((3 : Int32) * a6).toNatClampNeg))) ∨ (¬ ((σ.1 47 0 ((σ.1 60 0 (((3 : Int32) * a6).toNatClampNeg)).toNatClampNeg)) = a2) ∨ (¬ (fp_M_isIn σ (σ.1 60 0 ((((3 : Int32) * a6) + (1 : Int32)).toNatClampNeg)) a1)))) → (Ev none (d + 4) m_M_pacesOf 18 [some (vR 11 0), some (vI a1), some (vI a2), some (vI a3), some (vI a4), some (vI a5), some (vI (a6 + (1 : Int32))), none, none, none, none] [] σ post)) ∧ (¬ (((σ.1 11 0 8) ≤ (σ.1 60 0 (((3 : Int32) * a6).toNatClampNeg))) ∨ (¬ ((σ.1 47 0 ((σ.1 60 0 (((3 : Int32) * a6).toNatClampNeg)).toNatClampNeg)) = a2) ∨ (¬ (fp_M_isIn σ (σ.1 60 0 ((((3 : Int32) * a6) + (1 : Int32)).toNatClampNeg)) a1)))) → ((fs_M_timeBy σ a1 (σ.1 60 0 (((3 : Int32) * a6).toNatClampNeg)) a4) ∧ (Ev none (d + 3) m_M_together 0 [some (vR 11 0), some (vI ((σ.1 60 0 ((((3 : Int32) * a6) + (1 : Int32)).toNatClampNeg)) &&& ((isl (1 : Int32) a1) ^^^ (-1 : Int32)))), some (vI (σ.1 60 0 (((3 : Int32) * a6).toNatClampNeg))), none, none, none] [] σ (fun r s14 => ∃ z15 : Int32, r = some (vI z15) ∧ ((((a5 = 0) → True) ∧ (¬ (a5 = 0) → ((((fn_M_timeBy σ a1 (σ.1 60 0 (((3 : Int32) * a6).toNatClampNeg)) a4) ≤ z15) → (vp_in (((3 : Int32) * a6) + (2 : Int32)) 24)) ∧ (¬ ((fn_M_timeBy σ a1 (σ.1 60 0 (((3 : Int32) * a6).toNatClampNeg)) a4) ≤ z15) → (vp_in (((3 : Int32) * a6) + (2 : Int32)) 24))))) ∧ (∀ z18 : Int32, z18 = (bi (¬ (a5 = 0) ∧ ((((fn_M_timeBy σ a1 (σ.1 60 0 (((3 : Int32) * a6).toNatClampNeg)) a4) ≤ z15) ∧ (z15 = (s14.1 60 0 ((((3 : Int32) * a6) + (2 : Int32)).toNatClampNeg)))) ∨ (¬ ((fn_M_timeBy σ a1 (σ.1 60 0 (((3 : Int32) * a6).toNatClampNeg)) a4) ≤ z15) ∧ ((fn_M_timeBy σ a1 (σ.1 60 0 (((3 : Int32) * a6).toNatClampNeg)) a4) = (s14.1 60 0 ((((3 : Int32) * a6) + (2 : Int32)).toNatClampNeg))))))) → (Ev none (d + 4) m_M_pacesOf 18 [some (vR 11 0), some (vI a1), some (vI a2), some (vI a3), some (vI a4), some (vI z18), some (vI (a6 + (1 : Int32))), none, none, none, none] [] s14 post)))))))))))) : Ev none (d + 4) m_M_pacesOf 18 [some (vR 11 0), some (vI a1), some (vI a2), some (vI a3), some (vI a4), some (vI a5), some (vI a6), none, none, none, none] [] σ post := by
  refine ev_iload d_M_pacesOf_18 rfl ?_
  refine ev_aload_n d_M_pacesOf_20 rfl rfl ?_
  refine ev_getI gf_M_261 rfl (by decide) d_M_pacesOf_21 ?_
  refine ev_icmp_ge (tgt := 153) d_M_pacesOf_24 rfl (fun h3 => ?_) (fun h3 => ?_)
  · replace K := K.1 h3
    refine ev_iload_n d_M_pacesOf_153 rfl rfl ?_
    refine ev_iload d_M_pacesOf_154 rfl ?_
    obtain ⟨z4, ez4⟩ : ∃ z : Int32, z = (if a5 = 0 then (0 : Int32) else (isl (1 : Int32) (a4 - (1 : Int32)))) := ⟨_, rfl⟩
    replace K := K z4 ez4
    have JJ : Ev none (d + 4) m_M_pacesOf 169 [some (vR 11 0), some (vI a1), some (vI a2), none, some (vI a4), none, none, none, none, none, none] [vI z4, vI a3] σ post := by
      refine ev_ior d_M_pacesOf_169 ?_
      refine ev_istore_n (L' := [some (vR 11 0), some (vI a1), some (vI a2), some (vI (a3 ||| z4)), some (vI a4), none, none, none, none, none, none]) d_M_pacesOf_170 rfl (by decide) rfl ?_
      refine ev_iinc (v := a4 + (1 : Int32)) (L' := [some (vR 11 0), some (vI a1), some (vI a2), some (vI (a3 ||| z4)), some (vI (a4 + (1 : Int32))), none, none, none, none, none, none]) d_M_pacesOf_171 rfl (congrArg (a4 + ·) (by decide)) (by decide) rfl ?_
      refine ev_goto (tgt := 5) d_M_pacesOf_174 rfl ?_
      exact K
    clear K
    refine ev_if_eq (tgt := 168) d_M_pacesOf_156 rfl (fun h5 => ?_) (fun h5 => ?_)
    · rw [if_pos h5] at ez4
      refine ev_iconst (v := 0) d_M_pacesOf_168 (by decide) ?_
      subst ez4
      exact Ev.wk (lsub_kp (lsub_kp (lsub_kp (lsub_sk (lsub_kp (lsub_sk (lsub_sk (lsub_sk (lsub_sk (lsub_sk (lsub_sk (lsub_nil)))))))))))) JJ
    · rw [if_neg h5] at ez4
      refine ev_iconst (v := 1) d_M_pacesOf_159 (by decide) ?_
      refine ev_iload d_M_pacesOf_160 rfl ?_
      refine ev_iconst (v := 1) d_M_pacesOf_162 (by decide) ?_
      refine ev_isub d_M_pacesOf_163 ?_
      refine ev_ishl d_M_pacesOf_164 ?_
      refine ev_goto (tgt := 169) d_M_pacesOf_165 rfl ?_
      subst ez4
      exact Ev.wk (lsub_kp (lsub_kp (lsub_kp (lsub_sk (lsub_kp (lsub_sk (lsub_sk (lsub_sk (lsub_sk (lsub_sk (lsub_sk (lsub_nil)))))))))))) JJ
  · replace K := K.2 h3
    refine ev_aload_n d_M_pacesOf_27 rfl rfl ?_
    refine ev_getR gf_M_64 rfl (by decide) d_M_pacesOf_28 ?_
    refine ev_iconst (v := 3) d_M_pacesOf_31 (by decide) ?_
    refine ev_iload d_M_pacesOf_32 rfl ?_
    refine ev_imul d_M_pacesOf_34 ?_
    obtain ⟨q6, K⟩ := K
    refine ev_iald rfl (by decide) (by decide) q6 d_M_pacesOf_35 ?_
    refine ev_istore (L' := [some (vR 11 0), some (vI a1), some (vI a2), some (vI a3), some (vI a4), some (vI a5), some (vI a6), some (vI (σ.1 60 0 (((3 : Int32) * a6).toNatClampNeg))), none, none, none]) d_M_pacesOf_36 (by decide) rfl ?_
    refine ev_aload_n d_M_pacesOf_38 rfl rfl ?_
    refine ev_getR gf_M_64 rfl (by decide) d_M_pacesOf_39 ?_
    refine ev_iconst (v := 3) d_M_pacesOf_42 (by decide) ?_
    refine ev_iload d_M_pacesOf_43 rfl ?_
    refine ev_imul d_M_pacesOf_45 ?_
    refine ev_iconst (v := 1) d_M_pacesOf_46 (by decide) ?_
    refine ev_iadd d_M_pacesOf_47 ?_
    obtain ⟨q7, K⟩ := K
    refine ev_iald rfl (by decide) (by decide) q7 d_M_pacesOf_48 ?_
    refine ev_istore (L' := [some (vR 11 0), some (vI a1), some (vI a2), some (vI a3), some (vI a4), some (vI a5), some (vI a6), some (vI (σ.1 60 0 (((3 : Int32) * a6).toNatClampNeg))), some (vI (σ.1 60 0 ((((3 : Int32) * a6) + (1 : Int32)).toNatClampNeg))), none, none]) d_M_pacesOf_49 (by decide) rfl ?_
    refine ev_iload d_M_pacesOf_51 rfl ?_
    refine ev_aload_n d_M_pacesOf_53 rfl rfl ?_
    refine ev_getI gf_M_113 rfl (by decide) d_M_pacesOf_54 ?_
    obtain ⟨KS, K⟩ := K
    obtain ⟨w11, e12⟩ : ∃ w : Int32, w = bi (((σ.1 11 0 8) ≤ (σ.1 60 0 (((3 : Int32) * a6).toNatClampNeg))) ∨ (¬ ((σ.1 47 0 ((σ.1 60 0 (((3 : Int32) * a6).toNatClampNeg)).toNatClampNeg)) = a2) ∨ (¬ (fp_M_isIn σ (σ.1 60 0 ((((3 : Int32) * a6) + (1 : Int32)).toNatClampNeg)) a1)))) := ⟨_, rfl⟩
    have J1 : w11 = 1 → Ev none (d + 4) m_M_pacesOf 147 [some (vR 11 0), some (vI a1), some (vI a2), some (vI a3), some (vI a4), some (vI a5), some (vI a6), some (vI (σ.1 60 0 (((3 : Int32) * a6).toNatClampNeg))), some (vI (σ.1 60 0 ((((3 : Int32) * a6) + (1 : Int32)).toNatClampNeg))), none, none] [] σ post := by
      intro e121
      replace K := K.1 (bi_1.mp ((e12.symm).trans e121))
      refine ev_iinc (v := a6 + (1 : Int32)) (L' := [some (vR 11 0), some (vI a1), some (vI a2), some (vI a3), some (vI a4), some (vI a5), some (vI (a6 + (1 : Int32))), some (vI (σ.1 60 0 (((3 : Int32) * a6).toNatClampNeg))), some (vI (σ.1 60 0 ((((3 : Int32) * a6) + (1 : Int32)).toNatClampNeg))), none, none]) d_M_pacesOf_147 rfl (congrArg (a6 + ·) (by decide)) (by decide) rfl ?_
      refine ev_goto (tgt := 18) d_M_pacesOf_150 rfl ?_
      exact Ev.wk (lsub_kp (lsub_kp (lsub_kp (lsub_kp (lsub_kp (lsub_kp (lsub_kp (lsub_sk (lsub_sk (lsub_sk (lsub_sk (lsub_nil)))))))))))) K
    have J0 : w11 = 0 → Ev none (d + 4) m_M_pacesOf 80 [some (vR 11 0), some (vI a1), some (vI a2), some (vI a3), some (vI a4), some (vI a5), some (vI a6), some (vI (σ.1 60 0 (((3 : Int32) * a6).toNatClampNeg))), some (vI (σ.1 60 0 ((((3 : Int32) * a6) + (1 : Int32)).toNatClampNeg))), none, none] [] σ post := by
      intro e120
      replace K := K.2 (bi_0.mp ((e12.symm).trans e120))
      refine ev_aload_n d_M_pacesOf_80 rfl rfl ?_
      refine ev_iload_n d_M_pacesOf_81 rfl rfl ?_
      refine ev_iload d_M_pacesOf_82 rfl ?_
      refine ev_iload d_M_pacesOf_84 rfl ?_
      obtain ⟨q13, K⟩ := K
      refine ev_callV (as := [vI a1, vI (σ.1 60 0 (((3 : Int32) * a6).toNatClampNeg)), vI a4]) (st := []) (k := 11) (i := 0) g_M_timeBy ml_M_173 rfl rfl (by decide) (by decide) d_M_pacesOf_86 rfl rfl (Nat.le_of_ble_eq_true rfl) rfl (Nat.le_of_ble_eq_true rfl) ?_
      refine f_M_timeBy q13 ?_
      show Ev none (d + 4) m_M_pacesOf 89 [some (vR 11 0), some (vI a1), some (vI a2), some (vI a3), some (vI a4), some (vI a5), some (vI a6), some (vI (σ.1 60 0 (((3 : Int32) * a6).toNatClampNeg))), some (vI (σ.1 60 0 ((((3 : Int32) * a6) + (1 : Int32)).toNatClampNeg))), none, none] [vI (fn_M_timeBy σ a1 (σ.1 60 0 (((3 : Int32) * a6).toNatClampNeg)) a4)] σ post
      refine ev_istore (L' := [some (vR 11 0), some (vI a1), some (vI a2), some (vI a3), some (vI a4), some (vI a5), some (vI a6), some (vI (σ.1 60 0 (((3 : Int32) * a6).toNatClampNeg))), some (vI (σ.1 60 0 ((((3 : Int32) * a6) + (1 : Int32)).toNatClampNeg))), some (vI (fn_M_timeBy σ a1 (σ.1 60 0 (((3 : Int32) * a6).toNatClampNeg)) a4)), none]) d_M_pacesOf_89 (by decide) rfl ?_
      refine ev_aload_n d_M_pacesOf_91 rfl rfl ?_
      refine ev_iload d_M_pacesOf_92 rfl ?_
      refine ev_iconst (v := 1) d_M_pacesOf_94 (by decide) ?_
      refine ev_iload_n d_M_pacesOf_95 rfl rfl ?_
      refine ev_ishl d_M_pacesOf_96 ?_
      refine ev_iconst (v := -1) d_M_pacesOf_97 (by decide) ?_
      refine ev_ixor d_M_pacesOf_98 ?_
      refine ev_iand d_M_pacesOf_99 ?_
      refine ev_iload d_M_pacesOf_100 rfl ?_
      refine ev_callV (as := [vI ((σ.1 60 0 ((((3 : Int32) * a6) + (1 : Int32)).toNatClampNeg)) &&& ((isl (1 : Int32) a1) ^^^ (-1 : Int32))), vI (σ.1 60 0 (((3 : Int32) * a6).toNatClampNeg))]) (st := []) (k := 11) (i := 0) g_M_together ml_M_191 rfl rfl (by decide) (by decide) d_M_pacesOf_102 rfl rfl (Nat.le_of_ble_eq_true rfl) rfl (Nat.le_of_ble_eq_true rfl) ?_
      refine Ev.mono K ?_
      rintro _ s14 ⟨z15, rfl, K⟩
      show Ev none (d + 4) m_M_pacesOf 105 [some (vR 11 0), some (vI a1), some (vI a2), some (vI a3), some (vI a4), some (vI a5), some (vI a6), some (vI (σ.1 60 0 (((3 : Int32) * a6).toNatClampNeg))), some (vI (σ.1 60 0 ((((3 : Int32) * a6) + (1 : Int32)).toNatClampNeg))), some (vI (fn_M_timeBy σ a1 (σ.1 60 0 (((3 : Int32) * a6).toNatClampNeg)) a4)), none] [vI z15] s14 post
      refine ev_istore (L' := [some (vR 11 0), some (vI a1), some (vI a2), some (vI a3), some (vI a4), some (vI a5), some (vI a6), some (vI (σ.1 60 0 (((3 : Int32) * a6).toNatClampNeg))), some (vI (σ.1 60 0 ((((3 : Int32) * a6) + (1 : Int32)).toNatClampNeg))), some (vI (fn_M_timeBy σ a1 (σ.1 60 0 (((3 : Int32) * a6).toNatClampNeg)) a4)), some (vI z15)]) d_M_pacesOf_105 (by decide) rfl ?_
      refine ev_iload d_M_pacesOf_107 rfl ?_
      obtain ⟨KS, K⟩ := K
      obtain ⟨z18, ez18⟩ : ∃ z : Int32, z = (bi (¬ (a5 = 0) ∧ ((((fn_M_timeBy σ a1 (σ.1 60 0 (((3 : Int32) * a6).toNatClampNeg)) a4) ≤ z15) ∧ (z15 = (s14.1 60 0 ((((3 : Int32) * a6) + (2 : Int32)).toNatClampNeg)))) ∨ (¬ ((fn_M_timeBy σ a1 (σ.1 60 0 (((3 : Int32) * a6).toNatClampNeg)) a4) ≤ z15) ∧ ((fn_M_timeBy σ a1 (σ.1 60 0 (((3 : Int32) * a6).toNatClampNeg)) a4) = (s14.1 60 0 ((((3 : Int32) * a6) + (2 : Int32)).toNatClampNeg))))))) := ⟨_, rfl⟩
      replace K := K z18 ez18
      have JJ : Ev none (d + 4) m_M_pacesOf 145 [some (vR 11 0), some (vI a1), some (vI a2), some (vI a3), some (vI a4), none, some (vI a6), none, none, none, none] [vI z18] s14 post := by
        refine ev_istore (L' := [some (vR 11 0), some (vI a1), some (vI a2), some (vI a3), some (vI a4), some (vI z18), some (vI a6), none, none, none, none]) d_M_pacesOf_145 (by decide) rfl ?_
        refine ev_iinc (v := a6 + (1 : Int32)) (L' := [some (vR 11 0), some (vI a1), some (vI a2), some (vI a3), some (vI a4), some (vI z18), some (vI (a6 + (1 : Int32))), none, none, none, none]) d_M_pacesOf_147 rfl (congrArg (a6 + ·) (by decide)) (by decide) rfl ?_
        refine ev_goto (tgt := 18) d_M_pacesOf_150 rfl ?_
        exact K
      clear K
      refine ev_if_eq (tgt := 144) d_M_pacesOf_109 rfl (fun h19 => ?_) (fun h19 => ?_)
      · replace KS := KS.1 h19
        rw [b5t h19] at ez18
        refine ev_iconst (v := 0) d_M_pacesOf_144 (by decide) ?_
        subst ez18
        exact Ev.wk (lsub_kp (lsub_kp (lsub_kp (lsub_kp (lsub_kp (lsub_sk (lsub_kp (lsub_sk (lsub_sk (lsub_sk (lsub_sk (lsub_nil)))))))))))) JJ
      · replace KS := KS.2 h19
        rw [b5f h19] at ez18
        refine ev_iload d_M_pacesOf_112 rfl ?_
        refine ev_iload d_M_pacesOf_114 rfl ?_
        refine ev_icmp_le (tgt := 124) d_M_pacesOf_116 rfl (fun h20 => ?_) (fun h20 => ?_)
        · replace KS := KS.1 h20
          rw [b7t h20] at ez18
          have q16 := KS
          refine ev_iload d_M_pacesOf_124 rfl ?_
          refine ev_aload_n d_M_pacesOf_126 rfl rfl ?_
          refine ev_getR gf_M_64 rfl (by decide) d_M_pacesOf_127 ?_
          refine ev_iconst (v := 3) d_M_pacesOf_130 (by decide) ?_
          refine ev_iload d_M_pacesOf_131 rfl ?_
          refine ev_imul d_M_pacesOf_133 ?_
          refine ev_iconst (v := 2) d_M_pacesOf_134 (by decide) ?_
          refine ev_iadd d_M_pacesOf_135 ?_
          refine ev_iald rfl (by decide) (by decide) q16 d_M_pacesOf_136 ?_
          refine ev_icmp_ne (tgt := 144) d_M_pacesOf_137 rfl (fun h21 => ?_) (fun h21 => ?_)
          · rw [bi_f h21] at ez18
            refine ev_iconst (v := 0) d_M_pacesOf_144 (by decide) ?_
            subst ez18
            exact Ev.wk (lsub_kp (lsub_kp (lsub_kp (lsub_kp (lsub_kp (lsub_sk (lsub_kp (lsub_sk (lsub_sk (lsub_sk (lsub_sk (lsub_nil)))))))))))) JJ
          · rw [bi_t h21] at ez18
            refine ev_iconst (v := 1) d_M_pacesOf_140 (by decide) ?_
            refine ev_goto (tgt := 145) d_M_pacesOf_141 rfl ?_
            subst ez18
            exact Ev.wk (lsub_kp (lsub_kp (lsub_kp (lsub_kp (lsub_kp (lsub_sk (lsub_kp (lsub_sk (lsub_sk (lsub_sk (lsub_sk (lsub_nil)))))))))))) JJ
        · replace KS := KS.2 h20
          rw [b7f h20] at ez18
          have q17 := KS
          refine ev_iload d_M_pacesOf_119 rfl ?_
          refine ev_goto (tgt := 126) d_M_pacesOf_121 rfl ?_
          refine ev_aload_n d_M_pacesOf_126 rfl rfl ?_
          refine ev_getR gf_M_64 rfl (by decide) d_M_pacesOf_127 ?_
          refine ev_iconst (v := 3) d_M_pacesOf_130 (by decide) ?_
          refine ev_iload d_M_pacesOf_131 rfl ?_
          refine ev_imul d_M_pacesOf_133 ?_
          refine ev_iconst (v := 2) d_M_pacesOf_134 (by decide) ?_
          refine ev_iadd d_M_pacesOf_135 ?_
          refine ev_iald rfl (by decide) (by decide) q17 d_M_pacesOf_136 ?_
          refine ev_icmp_ne (tgt := 144) d_M_pacesOf_137 rfl (fun h22 => ?_) (fun h22 => ?_)
          · rw [bi_f h22] at ez18
            refine ev_iconst (v := 0) d_M_pacesOf_144 (by decide) ?_
            subst ez18
            exact Ev.wk (lsub_kp (lsub_kp (lsub_kp (lsub_kp (lsub_kp (lsub_sk (lsub_kp (lsub_sk (lsub_sk (lsub_sk (lsub_sk (lsub_nil)))))))))))) JJ
          · rw [bi_t h22] at ez18
            refine ev_iconst (v := 1) d_M_pacesOf_140 (by decide) ?_
            refine ev_goto (tgt := 145) d_M_pacesOf_141 rfl ?_
            subst ez18
            exact Ev.wk (lsub_kp (lsub_kp (lsub_kp (lsub_kp (lsub_kp (lsub_sk (lsub_kp (lsub_sk (lsub_sk (lsub_sk (lsub_sk (lsub_nil)))))))))))) JJ
    clear K
    refine ev_icmp_ge (tgt := 147) d_M_pacesOf_57 rfl (fun h23 => ?_) (fun h23 => ?_)
    · replace KS := KS.1 h23
      rw [b4t h23] at e12
      exact J1 e12
    · replace KS := KS.2 h23
      rw [b4f h23] at e12
      have q10 := KS
      refine ev_aload_n d_M_pacesOf_60 rfl rfl ?_
      refine ev_getR gf_M_25 rfl (by decide) d_M_pacesOf_61 ?_
      refine ev_iload d_M_pacesOf_64 rfl ?_
      refine ev_iald rfl (by decide) (by decide) q10 d_M_pacesOf_66 ?_
      refine ev_iload_n d_M_pacesOf_67 rfl rfl ?_
      refine ev_icmp_ne (tgt := 147) d_M_pacesOf_68 rfl (fun h24 => ?_) (fun h24 => ?_)
      · rw [b6f h24] at e12
        exact J1 e12
      · rw [b6t h24] at e12
        refine ev_iload d_M_pacesOf_71 rfl ?_
        refine ev_iload_n d_M_pacesOf_73 rfl rfl ?_
        refine ev_callS (as := [vI (σ.1 60 0 ((((3 : Int32) * a6) + (1 : Int32)).toNatClampNeg)), vI a1]) (st := []) g_M_isIn ml_M_169 d_M_pacesOf_74 rfl rfl (Nat.le_of_ble_eq_true rfl) rfl (Nat.le_of_ble_eq_true rfl) ?_
        refine f_M_isIn  ?_
        show Ev none (d + 4) m_M_pacesOf 77 [some (vR 11 0), some (vI a1), some (vI a2), some (vI a3), some (vI a4), some (vI a5), some (vI a6), some (vI (σ.1 60 0 (((3 : Int32) * a6).toNatClampNeg))), some (vI (σ.1 60 0 ((((3 : Int32) * a6) + (1 : Int32)).toNatClampNeg))), none, none] [vI (bi (fp_M_isIn σ (σ.1 60 0 ((((3 : Int32) * a6) + (1 : Int32)).toNatClampNeg)) a1))] σ post
        refine ev_ifb_eq (tgt := 147) d_M_pacesOf_77 rfl (fun h25 => ?_) (fun h25 => ?_)
        · rw [bi_t h25] at e12
          exact J1 e12
        · rw [bi_f (not_not_intro h25)] at e12
          exact J0 e12
set_option maxRecDepth 4000 in
theorem sg_M_time_0 {d : Nat} {σ : ST} {a1 : Int32} {a2 : Int32} {post : Option AV → ST → Prop} (K : ((fp_M_isReader σ a1) → (Ev none (d + 3) m_M_isChapter 0 [some (vR 11 0), some (vI a2)] [] σ (fun r s2 => ∃ z3 : Int32, r = some (vI z3) ∧ (((z3 = 0) → (post (some (vI (-2 : Int32))) s2)) ∧ (¬ (z3 = 0) → ((fs_M_timeOf s2 a1 a2) ∧ (post (some (vI (fn_M_timeOf s2 a1 a2))) s2))))))) ∧ (¬ (fp_M_isReader σ a1) → (post (some (vI (-2 : Int32))) σ))) : Ev none (d + 4) m_M_time 0 [some (vR 11 0), some (vI a1), some (vI a2)] [] σ post := by
  refine ev_iload_n d_M_time_0 rfl rfl ?_
  refine ev_callS (as := [vI a1]) (st := []) g_M_isReader ml_M_149 d_M_time_1 rfl rfl (Nat.le_of_ble_eq_true rfl) rfl (Nat.le_of_ble_eq_true rfl) ?_
  refine f_M_isReader  ?_
  show Ev none (d + 4) m_M_time 4 [some (vR 11 0), some (vI a1), some (vI a2)] [vI (bi (fp_M_isReader σ a1))] σ post
  refine ev_ifb_eq (tgt := 24) d_M_time_4 rfl (fun h1 => ?_) (fun h1 => ?_)
  · replace K := K.2 h1
    refine ev_bipush (v := -2) d_M_time_24 (by decide) ?_
    exact ev_ret (r := some (vI (-2 : Int32))) d_M_time_26 rfl rfl K
  · replace K := K.1 h1
    refine ev_aload_n d_M_time_7 rfl rfl ?_
    refine ev_iload_n d_M_time_8 rfl rfl ?_
    refine ev_callV (as := [vI a2]) (st := []) (k := 11) (i := 0) g_M_isChapter ml_M_143 rfl rfl (by decide) (by decide) d_M_time_9 rfl rfl (Nat.le_of_ble_eq_true rfl) rfl (Nat.le_of_ble_eq_true rfl) ?_
    refine Ev.mono K ?_
    rintro _ s2 ⟨z3, rfl, K⟩
    show Ev none (d + 4) m_M_time 12 [some (vR 11 0), some (vI a1), some (vI a2)] [vI z3] s2 post
    refine ev_if_eq (tgt := 24) d_M_time_12 rfl (fun h4 => ?_) (fun h4 => ?_)
    · replace K := K.1 h4
      refine ev_bipush (v := -2) d_M_time_24 (by decide) ?_
      exact ev_ret (r := some (vI (-2 : Int32))) d_M_time_26 rfl rfl K
    · replace K := K.2 h4
      refine ev_aload_n d_M_time_15 rfl rfl ?_
      refine ev_iload_n d_M_time_16 rfl rfl ?_
      refine ev_iload_n d_M_time_17 rfl rfl ?_
      obtain ⟨q5, K⟩ := K
      refine ev_callV (as := [vI a1, vI a2]) (st := []) (k := 11) (i := 0) g_M_timeOf ml_M_176 rfl rfl (by decide) (by decide) d_M_time_18 rfl rfl (Nat.le_of_ble_eq_true rfl) rfl (Nat.le_of_ble_eq_true rfl) ?_
      refine f_M_timeOf q5 ?_
      show Ev none (d + 4) m_M_time 21 [some (vR 11 0), some (vI a1), some (vI a2)] [vI (fn_M_timeOf s2 a1 a2)] s2 post
      refine ev_goto (tgt := 26) d_M_time_21 rfl ?_
      exact ev_ret (r := some (vI (fn_M_timeOf s2 a1 a2))) d_M_time_26 rfl rfl K
set_option maxRecDepth 4000 in
theorem sg_M_unlikeNow_0 {d : Nat} {σ : ST}  {post : Option AV → ST → Prop} (K : Ev none (d + 4) m_M_unlikeNow 4 [some (vR 11 0), some (vI (0 : Int32)), some (vI (0 : Int32)), none] [] σ post) : Ev none (d + 4) m_M_unlikeNow 0 [some (vR 11 0), none, none, none] [] σ post := by
  refine ev_iconst (v := 0) d_M_unlikeNow_0 (by decide) ?_
  refine ev_istore_n (L' := [some (vR 11 0), some (vI (0 : Int32)), none, none]) d_M_unlikeNow_1 rfl (by decide) rfl ?_
  refine ev_iconst (v := 0) d_M_unlikeNow_2 (by decide) ?_
  refine ev_istore_n (L' := [some (vR 11 0), some (vI (0 : Int32)), some (vI (0 : Int32)), none]) d_M_unlikeNow_3 rfl (by decide) rfl ?_
  exact K
set_option maxRecDepth 4000 in
theorem sg_M_unlikeNow_4 {d : Nat} {σ : ST} {a1 : Int32} {a2 : Int32} {post : Option AV → ST → Prop} (K : (((σ.1 11 0 29) ≤ a2) → (post (some (vI a1)) σ)) ∧ (¬ ((σ.1 11 0 29) ≤ a2) → ((vp_in ((3 : Int32) * a2) 24) ∧ ((((σ.1 11 0 8) ≤ (σ.1 60 0 (((3 : Int32) * a2).toNatClampNeg))) → (∀ z6 : Int32, z6 = (bi ((0 : Int32) = 0)) → (Ev none (d + 4) m_M_unlikeNow 4 [some (vR 11 0), some (vI (a1 + z6)), some (vI (a2 + (1 : Int32))), none] [] σ post))) ∧ (¬ ((σ.1 11 0 8) ≤ (σ.1 60 0 (((3 : Int32) * a2).toNatClampNeg))) → ((vp_in (((3 : Int32) * a2) + (1 : Int32)) 24) ∧ ((vp_in ((3 : Int32) * a2) 24) ∧ (Ev none (d + 3) m_M_together 0 [some (vR 11 0), some (vI (σ.1 60 0 ((((3 : Int32) * a2) + (1 : Int32)).toNatClampNeg))), some (vI (σ.1 60 0 (((3 : Int32) * a2).toNatClampNeg))), none, none, none] [] σ (fun r s10 => ∃ z11 : Int32, r = some (vI z11) ∧ ((vp_in (((3 : Int32) * a2) + (2 : Int32)) 24) ∧ (∀ z13 : Int32, z13 = (bi (z11 = (s10.1 60 0 ((((3 : Int32) * a2) + (2 : Int32)).toNatClampNeg)))) → (∀ z14 : Int32, z14 = (bi (z13 = 0)) → (Ev none (d + 4) m_M_unlikeNow 4 [some (vR 11 0), some (vI (a1 + z14)), some (vI (a2 + (1 : Int32))), none] [] s10 post))))))))))))) : Ev none (d + 4) m_M_unlikeNow 4 [some (vR 11 0), some (vI a1), some (vI a2), none] [] σ post := by
  refine ev_iload_n d_M_unlikeNow_4 rfl rfl ?_
  refine ev_aload_n d_M_unlikeNow_5 rfl rfl ?_
  refine ev_getI gf_M_261 rfl (by decide) d_M_unlikeNow_6 ?_
  refine ev_icmp_ge (tgt := 86) d_M_unlikeNow_9 rfl (fun h1 => ?_) (fun h1 => ?_)
  · replace K := K.1 h1
    refine ev_iload_n d_M_unlikeNow_86 rfl rfl ?_
    exact ev_ret (r := some (vI a1)) d_M_unlikeNow_87 rfl rfl K
  · replace K := K.2 h1
    refine ev_aload_n d_M_unlikeNow_12 rfl rfl ?_
    refine ev_getR gf_M_64 rfl (by decide) d_M_unlikeNow_13 ?_
    refine ev_iconst (v := 3) d_M_unlikeNow_16 (by decide) ?_
    refine ev_iload_n d_M_unlikeNow_17 rfl rfl ?_
    refine ev_imul d_M_unlikeNow_18 ?_
    obtain ⟨q2, K⟩ := K
    refine ev_iald rfl (by decide) (by decide) q2 d_M_unlikeNow_19 ?_
    refine ev_aload_n d_M_unlikeNow_20 rfl rfl ?_
    refine ev_getI gf_M_113 rfl (by decide) d_M_unlikeNow_21 ?_
    refine ev_icmp_ge (tgt := 66) d_M_unlikeNow_24 rfl (fun h5 => ?_) (fun h5 => ?_)
    · replace K := K.1 h5
      refine ev_iconst (v := 0) d_M_unlikeNow_66 (by decide) ?_
      refine ev_istore_n (L' := [some (vR 11 0), some (vI a1), some (vI a2), some (vI (0 : Int32))]) d_M_unlikeNow_67 rfl (by decide) rfl ?_
      refine ev_iload_n d_M_unlikeNow_68 rfl rfl ?_
      refine ev_iload_n d_M_unlikeNow_69 rfl rfl ?_
      obtain ⟨z6, ez6⟩ : ∃ z : Int32, z = (bi ((0 : Int32) = 0)) := ⟨_, rfl⟩
      replace K := K z6 ez6
      have JJ : Ev none (d + 4) m_M_unlikeNow 78 [some (vR 11 0), none, some (vI a2), none] [vI z6, vI a1] σ post := by
        refine ev_iadd d_M_unlikeNow_78 ?_
        refine ev_istore_n (L' := [some (vR 11 0), some (vI (a1 + z6)), some (vI a2), none]) d_M_unlikeNow_79 rfl (by decide) rfl ?_
        refine ev_iinc (v := a2 + (1 : Int32)) (L' := [some (vR 11 0), some (vI (a1 + z6)), some (vI (a2 + (1 : Int32))), none]) d_M_unlikeNow_80 rfl (congrArg (a2 + ·) (by decide)) (by decide) rfl ?_
        refine ev_goto (tgt := 4) d_M_unlikeNow_83 rfl ?_
        exact K
      clear K
      refine ev_if_eq (tgt := 77) d_M_unlikeNow_70 rfl (fun h7 => ?_) (fun h7 => ?_)
      · rw [bi_t h7] at ez6
        refine ev_iconst (v := 1) d_M_unlikeNow_77 (by decide) ?_
        subst ez6
        exact Ev.wk (lsub_kp (lsub_sk (lsub_kp (lsub_sk (lsub_nil))))) JJ
      · rw [bi_f h7] at ez6
        refine ev_iconst (v := 0) d_M_unlikeNow_73 (by decide) ?_
        refine ev_goto (tgt := 78) d_M_unlikeNow_74 rfl ?_
        subst ez6
        exact Ev.wk (lsub_kp (lsub_sk (lsub_kp (lsub_sk (lsub_nil))))) JJ
    · replace K := K.2 h5
      refine ev_aload_n d_M_unlikeNow_27 rfl rfl ?_
      refine ev_aload_n d_M_unlikeNow_28 rfl rfl ?_
      refine ev_getR gf_M_64 rfl (by decide) d_M_unlikeNow_29 ?_
      refine ev_iconst (v := 3) d_M_unlikeNow_32 (by decide) ?_
      refine ev_iload_n d_M_unlikeNow_33 rfl rfl ?_
      refine ev_imul d_M_unlikeNow_34 ?_
      refine ev_iconst (v := 1) d_M_unlikeNow_35 (by decide) ?_
      refine ev_iadd d_M_unlikeNow_36 ?_
      obtain ⟨q8, K⟩ := K
      refine ev_iald rfl (by decide) (by decide) q8 d_M_unlikeNow_37 ?_
      refine ev_aload_n d_M_unlikeNow_38 rfl rfl ?_
      refine ev_getR gf_M_64 rfl (by decide) d_M_unlikeNow_39 ?_
      refine ev_iconst (v := 3) d_M_unlikeNow_42 (by decide) ?_
      refine ev_iload_n d_M_unlikeNow_43 rfl rfl ?_
      refine ev_imul d_M_unlikeNow_44 ?_
      obtain ⟨q9, K⟩ := K
      refine ev_iald rfl (by decide) (by decide) q9 d_M_unlikeNow_45 ?_
      refine ev_callV (as := [vI (σ.1 60 0 ((((3 : Int32) * a2) + (1 : Int32)).toNatClampNeg)), vI (σ.1 60 0 (((3 : Int32) * a2).toNatClampNeg))]) (st := []) (k := 11) (i := 0) g_M_together ml_M_191 rfl rfl (by decide) (by decide) d_M_unlikeNow_46 rfl rfl (Nat.le_of_ble_eq_true rfl) rfl (Nat.le_of_ble_eq_true rfl) ?_
      refine Ev.mono K ?_
      rintro _ s10 ⟨z11, rfl, K⟩
      show Ev none (d + 4) m_M_unlikeNow 49 [some (vR 11 0), some (vI a1), some (vI a2), none] [vI z11] s10 post
      refine ev_aload_n d_M_unlikeNow_49 rfl rfl ?_
      refine ev_getR gf_M_64 rfl (by decide) d_M_unlikeNow_50 ?_
      refine ev_iconst (v := 3) d_M_unlikeNow_53 (by decide) ?_
      refine ev_iload_n d_M_unlikeNow_54 rfl rfl ?_
      refine ev_imul d_M_unlikeNow_55 ?_
      refine ev_iconst (v := 2) d_M_unlikeNow_56 (by decide) ?_
      refine ev_iadd d_M_unlikeNow_57 ?_
      obtain ⟨q12, K⟩ := K
      refine ev_iald rfl (by decide) (by decide) q12 d_M_unlikeNow_58 ?_
      obtain ⟨z13, ez13⟩ : ∃ z : Int32, z = (bi (z11 = (s10.1 60 0 ((((3 : Int32) * a2) + (2 : Int32)).toNatClampNeg)))) := ⟨_, rfl⟩
      replace K := K z13 ez13
      have JJ : Ev none (d + 4) m_M_unlikeNow 67 [some (vR 11 0), some (vI a1), some (vI a2), none] [vI z13] s10 post := by
        refine ev_istore_n (L' := [some (vR 11 0), some (vI a1), some (vI a2), some (vI z13)]) d_M_unlikeNow_67 rfl (by decide) rfl ?_
        refine ev_iload_n d_M_unlikeNow_68 rfl rfl ?_
        refine ev_iload_n d_M_unlikeNow_69 rfl rfl ?_
        obtain ⟨z14, ez14⟩ : ∃ z : Int32, z = (bi (z13 = 0)) := ⟨_, rfl⟩
        replace K := K z14 ez14
        have JJ : Ev none (d + 4) m_M_unlikeNow 78 [some (vR 11 0), none, some (vI a2), none] [vI z14, vI a1] s10 post := by
          refine ev_iadd d_M_unlikeNow_78 ?_
          refine ev_istore_n (L' := [some (vR 11 0), some (vI (a1 + z14)), some (vI a2), none]) d_M_unlikeNow_79 rfl (by decide) rfl ?_
          refine ev_iinc (v := a2 + (1 : Int32)) (L' := [some (vR 11 0), some (vI (a1 + z14)), some (vI (a2 + (1 : Int32))), none]) d_M_unlikeNow_80 rfl (congrArg (a2 + ·) (by decide)) (by decide) rfl ?_
          refine ev_goto (tgt := 4) d_M_unlikeNow_83 rfl ?_
          exact K
        clear K
        refine ev_if_eq (tgt := 77) d_M_unlikeNow_70 rfl (fun h15 => ?_) (fun h15 => ?_)
        · rw [bi_t h15] at ez14
          refine ev_iconst (v := 1) d_M_unlikeNow_77 (by decide) ?_
          subst ez14
          exact Ev.wk (lsub_kp (lsub_sk (lsub_kp (lsub_sk (lsub_nil))))) JJ
        · rw [bi_f h15] at ez14
          refine ev_iconst (v := 0) d_M_unlikeNow_73 (by decide) ?_
          refine ev_goto (tgt := 78) d_M_unlikeNow_74 rfl ?_
          subst ez14
          exact Ev.wk (lsub_kp (lsub_sk (lsub_kp (lsub_sk (lsub_nil))))) JJ
      clear K
      refine ev_icmp_ne (tgt := 66) d_M_unlikeNow_59 rfl (fun h16 => ?_) (fun h16 => ?_)
      · rw [bi_f h16] at ez13
        refine ev_iconst (v := 0) d_M_unlikeNow_66 (by decide) ?_
        subst ez13
        exact JJ
      · rw [bi_t h16] at ez13
        refine ev_iconst (v := 1) d_M_unlikeNow_62 (by decide) ?_
        refine ev_goto (tgt := 67) d_M_unlikeNow_63 rfl ?_
        subst ez13
        exact JJ
set_option maxRecDepth 4000 in
theorem sg_M_best_0 {d : Nat} {σ : ST} {a1 : Int32} {a2 : Int32} {a3 : Int32} {post : Option AV → ST → Prop} (K : (((fp_M_areTwo σ a1 a2) ∧ (fp_M_in σ (Int32.toInt64 a3) (0 : Int64) (2 : Int64))) → (Ev none (d + 4) m_M_reads 0 [some (vR 11 0), none] [] σ (fun r s3 => ∃ z4 : Int32, r = some (vI z4) ∧ (Ev none (d + 4) m_M_findBest 0 [some (vR 11 0), some (vI a1), some (vI a2), none, none, none, none, none] [] s3 (fun r s5 => r = none ∧ (post (some (vI (fn_M_bestOf s5 a3))) s5)))))) ∧ (¬ ((fp_M_areTwo σ a1 a2) ∧ (fp_M_in σ (Int32.toInt64 a3) (0 : Int64) (2 : Int64))) → (post (some (vI (-2 : Int32))) σ))) : Ev none (d + 5) m_M_best 0 [some (vR 11 0), some (vI a1), some (vI a2), some (vI a3)] [] σ post := by
  refine ev_iload_n d_M_best_0 rfl rfl ?_
  refine ev_iload_n d_M_best_1 rfl rfl ?_
  refine ev_callS (as := [vI a1, vI a2]) (st := []) g_M_areTwo ml_M_223 d_M_best_2 rfl rfl (Nat.le_of_ble_eq_true rfl) rfl (Nat.le_of_ble_eq_true rfl) ?_
  refine f_M_areTwo  ?_
  show Ev none (d + 5) m_M_best 5 [some (vR 11 0), some (vI a1), some (vI a2), some (vI a3)] [vI (bi (fp_M_areTwo σ a1 a2))] σ post
  obtain ⟨w1, e2⟩ : ∃ w : Int32, w = bi ((fp_M_areTwo σ a1 a2) ∧ (fp_M_in σ (Int32.toInt64 a3) (0 : Int64) (2 : Int64))) := ⟨_, rfl⟩
  have J1 : w1 = 1 → Ev none (d + 5) m_M_best 23 [some (vR 11 0), some (vI a1), some (vI a2), some (vI a3)] [] σ post := by
    intro e21
    replace K := K.1 (bi_1.mp ((e2.symm).trans e21))
    refine ev_aload_n d_M_best_23 rfl rfl ?_
    refine ev_callV (as := []) (st := []) (k := 11) (i := 0) g_M_reads ml_M_131 rfl rfl (by decide) (by decide) d_M_best_24 rfl rfl (Nat.le_of_ble_eq_true rfl) rfl (Nat.le_of_ble_eq_true rfl) ?_
    refine Ev.mono K ?_
    rintro _ s3 ⟨z4, rfl, K⟩
    show Ev none (d + 5) m_M_best 27 [some (vR 11 0), some (vI a1), some (vI a2), some (vI a3)] [vI z4] s3 post
    refine ev_pop d_M_best_27 rfl ?_
    refine ev_aload_n d_M_best_28 rfl rfl ?_
    refine ev_iload_n d_M_best_29 rfl rfl ?_
    refine ev_iload_n d_M_best_30 rfl rfl ?_
    refine ev_callV (as := [vI a1, vI a2]) (st := []) (k := 11) (i := 0) g_M_findBest ml_M_226 rfl rfl (by decide) (by decide) d_M_best_31 rfl rfl (Nat.le_of_ble_eq_true rfl) rfl (Nat.le_of_ble_eq_true rfl) ?_
    refine Ev.mono K ?_
    rintro _ s5 ⟨rfl, K⟩
    show Ev none (d + 5) m_M_best 34 [some (vR 11 0), some (vI a1), some (vI a2), some (vI a3)] [] s5 post
    refine ev_aload_n d_M_best_34 rfl rfl ?_
    refine ev_iload_n d_M_best_35 rfl rfl ?_
    refine ev_callV (as := [vI a3]) (st := []) (k := 11) (i := 0) g_M_bestOf ml_M_229 rfl rfl (by decide) (by decide) d_M_best_36 rfl rfl (Nat.le_of_ble_eq_true rfl) rfl (Nat.le_of_ble_eq_true rfl) ?_
    refine f_M_bestOf  ?_
    show Ev none (d + 5) m_M_best 39 [some (vR 11 0), some (vI a1), some (vI a2), some (vI a3)] [vI (fn_M_bestOf s5 a3)] s5 post
    exact ev_ret (r := some (vI (fn_M_bestOf s5 a3))) d_M_best_39 rfl rfl K
  have J0 : w1 = 0 → Ev none (d + 5) m_M_best 20 [some (vR 11 0), some (vI a1), some (vI a2), some (vI a3)] [] σ post := by
    intro e20
    replace K := K.2 (bi_0.mp ((e2.symm).trans e20))
    refine ev_bipush (v := -2) d_M_best_20 (by decide) ?_
    exact ev_ret (r := some (vI (-2 : Int32))) d_M_best_22 rfl rfl K
  clear K
  refine ev_ifb_eq (tgt := 20) d_M_best_5 rfl (fun h6 => ?_) (fun h6 => ?_)
  · rw [b3f h6] at e2
    exact J0 e2
  · rw [b3t h6] at e2
    refine ev_iload_n d_M_best_8 rfl rfl ?_
    refine ev_i2l d_M_best_9 ?_
    refine ev_lconst (v := 0) d_M_best_10 (by decide) ?_
    refine ev_ldc2 d_M_best_11 cn_M_90 ?_
    refine ev_callS (as := [vJ (Int32.toInt64 a3), vJ (0 : Int64), vJ (2 : Int64)]) (st := []) g_M_in ml_M_76 d_M_best_14 rfl rfl (Nat.le_of_ble_eq_true rfl) rfl (Nat.le_of_ble_eq_true rfl) ?_
    refine f_M_in  ?_
    show Ev none (d + 5) m_M_best 17 [some (vR 11 0), some (vI a1), some (vI a2), some (vI a3)] [vI (bi (fp_M_in σ (Int32.toInt64 a3) (0 : Int64) (2 : Int64)))] σ post
    refine ev_ifb_ne (tgt := 23) d_M_best_17 rfl (fun h7 => ?_) (fun h7 => ?_)
    · rw [bi_t h7] at e2
      exact J1 e2
    · rw [bi_f h7] at e2
      exact J0 e2
set_option maxRecDepth 4000 in
theorem sg_M_doneOf_0 {d : Nat} {σ : ST} {a1 : Int32} {a2 : Int32} {a3 : Int32} {post : Option AV → ST → Prop} (K : Ev none (d + 4) m_M_findMinutes 0 [some (vR 11 0), some (vI a1), none, none, none, none, none, none] [] σ (fun r s1 => r = none ∧ (Ev none (d + 5) m_M_doneOf 11 [some (vR 11 0), none, some (vI a2), some (vI a3), some (vJ (0 : Int64)), none, some (vI (0 : Int32))] [] s1 post))) : Ev none (d + 5) m_M_doneOf 0 [some (vR 11 0), some (vI a1), some (vI a2), some (vI a3), none, none, none] [] σ post := by
  refine ev_aload_n d_M_doneOf_0 rfl rfl ?_
  refine ev_iload_n d_M_doneOf_1 rfl rfl ?_
  refine ev_callV (as := [vI a1]) (st := []) (k := 11) (i := 0) g_M_findMinutes ml_M_281 rfl rfl (by decide) (by decide) d_M_doneOf_2 rfl rfl (Nat.le_of_ble_eq_true rfl) rfl (Nat.le_of_ble_eq_true rfl) ?_
  refine Ev.mono K ?_
  rintro _ s1 ⟨rfl, K⟩
  show Ev none (d + 5) m_M_doneOf 5 [some (vR 11 0), some (vI a1), some (vI a2), some (vI a3), none, none, none] [] s1 post
  refine ev_lconst (v := 0) d_M_doneOf_5 (by decide) ?_
  refine ev_lstore (L' := [some (vR 11 0), some (vI a1), some (vI a2), some (vI a3), some (vJ (0 : Int64)), none, none]) d_M_doneOf_6 (by decide) rfl ?_
  refine ev_iconst (v := 0) d_M_doneOf_8 (by decide) ?_
  refine ev_istore (L' := [some (vR 11 0), some (vI a1), some (vI a2), some (vI a3), some (vJ (0 : Int64)), none, some (vI (0 : Int32))]) d_M_doneOf_9 (by decide) rfl ?_
  exact Ev.wk (lsub_kp (lsub_sk (lsub_kp (lsub_kp (lsub_kp (lsub_sk (lsub_kp (lsub_nil)))))))) K
set_option maxRecDepth 4000 in
theorem sg_M_doneOf_11 {d : Nat} {σ : ST} {a2 : Int32} {a3 : Int32} {a4 : Int64} {a6 : Int32} {post : Option AV → ST → Prop} (K : ((((3200 : Int32) ≤ a6) ∨ (a2 < a6)) → (Ev none (d + 4) m_M_part 0 [some (vJ a4), none, some (vJ (σ.2 11 0 33)), none, some (vI a3), none, none, none, none, none, none] [] σ (fun r s4 => ∃ z5 : Int64, r = some (vJ z5) ∧ (post (some (vJ z5)) s4)))) ∧ (¬ (((3200 : Int32) ≤ a6) ∨ (a2 < a6)) → ((vp_in a6 3200) ∧ (Ev none (d + 5) m_M_doneOf 11 [some (vR 11 0), none, some (vI a2), some (vI a3), some (vJ (a4 + (σ.2 61 0 (a6.toNatClampNeg)))), none, some (vI (a6 + (1 : Int32)))] [] σ post)))) : Ev none (d + 5) m_M_doneOf 11 [some (vR 11 0), none, some (vI a2), some (vI a3), some (vJ a4), none, some (vI a6)] [] σ post := by
  refine ev_iload d_M_doneOf_11 rfl ?_
  refine ev_sipush (v := 3200) d_M_doneOf_13 (by decide) ?_
  obtain ⟨w2, e3⟩ : ∃ w : Int32, w = bi (((3200 : Int32) ≤ a6) ∨ (a2 < a6)) := ⟨_, rfl⟩
  have J1 : w2 = 1 → Ev none (d + 5) m_M_doneOf 43 [some (vR 11 0), none, some (vI a2), some (vI a3), some (vJ a4), none, some (vI a6)] [] σ post := by
    intro e31
    replace K := K.1 (bi_1.mp ((e3.symm).trans e31))
    refine ev_lload d_M_doneOf_43 rfl ?_
    refine ev_aload_n d_M_doneOf_45 rfl rfl ?_
    refine ev_getJ gf_M_270 rfl (by decide) d_M_doneOf_46 ?_
    refine ev_iload_n d_M_doneOf_49 rfl rfl ?_
    refine ev_callS (as := [vJ a4, vJ (σ.2 11 0 33), vI a3]) (st := []) g_M_part ml_M_285 d_M_doneOf_50 rfl rfl (Nat.le_of_ble_eq_true rfl) rfl (Nat.le_of_ble_eq_true rfl) ?_
    refine Ev.mono K ?_
    rintro _ s4 ⟨z5, rfl, K⟩
    show Ev none (d + 5) m_M_doneOf 53 [some (vR 11 0), none, some (vI a2), some (vI a3), some (vJ a4), none, some (vI a6)] [vJ z5] s4 post
    exact ev_ret (r := some (vJ z5)) d_M_doneOf_53 rfl rfl K
  have J0 : w2 = 0 → Ev none (d + 5) m_M_doneOf 25 [some (vR 11 0), none, some (vI a2), some (vI a3), some (vJ a4), none, some (vI a6)] [] σ post := by
    intro e30
    replace K := K.2 (bi_0.mp ((e3.symm).trans e30))
    refine ev_lload d_M_doneOf_25 rfl ?_
    refine ev_aload_n d_M_doneOf_27 rfl rfl ?_
    refine ev_getR gf_M_67 rfl (by decide) d_M_doneOf_28 ?_
    refine ev_iload d_M_doneOf_31 rfl ?_
    obtain ⟨q6, K⟩ := K
    refine ev_lald rfl (by decide) (by decide) q6 d_M_doneOf_33 ?_
    refine ev_ladd d_M_doneOf_34 ?_
    refine ev_lstore (L' := [some (vR 11 0), none, some (vI a2), some (vI a3), some (vJ (a4 + (σ.2 61 0 (a6.toNatClampNeg)))), none, some (vI a6)]) d_M_doneOf_35 (by decide) rfl ?_
    refine ev_iinc (v := a6 + (1 : Int32)) (L' := [some (vR 11 0), none, some (vI a2), some (vI a3), some (vJ (a4 + (σ.2 61 0 (a6.toNatClampNeg)))), none, some (vI (a6 + (1 : Int32)))]) d_M_doneOf_37 rfl (congrArg (a6 + ·) (by decide)) (by decide) rfl ?_
    refine ev_goto (tgt := 11) d_M_doneOf_40 rfl ?_
    exact K
  clear K
  refine ev_icmp_ge (tgt := 43) d_M_doneOf_16 rfl (fun h7 => ?_) (fun h7 => ?_)
  · rw [b4t h7] at e3
    exact J1 e3
  · rw [b4f h7] at e3
    refine ev_iload d_M_doneOf_19 rfl ?_
    refine ev_iload_n d_M_doneOf_21 rfl rfl ?_
    refine ev_icmp_gt (tgt := 43) d_M_doneOf_22 rfl (fun h8 => ?_) (fun h8 => ?_)
    · rw [bi_t h8] at e3
      exact J1 e3
    · rw [bi_f h8] at e3
      exact J0 e3
set_option maxRecDepth 4000 in
theorem sg_M_eveningOf_0 {d : Nat} {σ : ST} {a1 : Int32} {a2 : Int32} {a3 : Int32} {post : Option AV → ST → Prop} (K : Ev none (d + 4) m_M_findEvening 0 [some (vR 11 0), some (vI a1), some (vI a2), none, none, none] [] σ (fun r s1 => r = none ∧ (((a3 = 0) → (post (some (vI (s1.1 11 0 18))) s1)) ∧ (¬ (a3 = 0) → (((a3 = (1 : Int32)) → (post (some (vI (s1.1 11 0 19))) s1)) ∧ (¬ (a3 = (1 : Int32)) → (post (some (vI (s1.1 11 0 20))) s1))))))) : Ev none (d + 5) m_M_eveningOf 0 [some (vR 11 0), some (vI a1), some (vI a2), some (vI a3)] [] σ post := by
  refine ev_aload_n d_M_eveningOf_0 rfl rfl ?_
  refine ev_iload_n d_M_eveningOf_1 rfl rfl ?_
  refine ev_iload_n d_M_eveningOf_2 rfl rfl ?_
  refine ev_callV (as := [vI a1, vI a2]) (st := []) (k := 11) (i := 0) g_M_findEvening ml_M_194 rfl rfl (by decide) (by decide) d_M_eveningOf_3 rfl rfl (Nat.le_of_ble_eq_true rfl) rfl (Nat.le_of_ble_eq_true rfl) ?_
  refine Ev.mono K ?_
  rintro _ s1 ⟨rfl, K⟩
  show Ev none (d + 5) m_M_eveningOf 6 [some (vR 11 0), some (vI a1), some (vI a2), some (vI a3)] [] s1 post
  refine ev_iload_n d_M_eveningOf_6 rfl rfl ?_
  refine ev_if_ne (tgt := 17) d_M_eveningOf_7 rfl (fun h2 => ?_) (fun h2 => ?_)
  · replace K := K.2 h2
    refine ev_iload_n d_M_eveningOf_17 rfl rfl ?_
    refine ev_iconst (v := 1) d_M_eveningOf_18 (by decide) ?_
    refine ev_icmp_ne (tgt := 29) d_M_eveningOf_19 rfl (fun h3 => ?_) (fun h3 => ?_)
    · replace K := K.2 h3
      refine ev_aload_n d_M_eveningOf_29 rfl rfl ?_
      refine ev_getI gf_M_185 rfl (by decide) d_M_eveningOf_30 ?_
      exact ev_ret (r := some (vI (s1.1 11 0 20))) d_M_eveningOf_33 rfl rfl K
    · replace K := K.1 h3
      refine ev_aload_n d_M_eveningOf_22 rfl rfl ?_
      refine ev_getI gf_M_182 rfl (by decide) d_M_eveningOf_23 ?_
      refine ev_goto (tgt := 33) d_M_eveningOf_26 rfl ?_
      exact ev_ret (r := some (vI (s1.1 11 0 19))) d_M_eveningOf_33 rfl rfl K
  · replace K := K.1 h2
    refine ev_aload_n d_M_eveningOf_10 rfl rfl ?_
    refine ev_getI gf_M_179 rfl (by decide) d_M_eveningOf_11 ?_
    refine ev_goto (tgt := 33) d_M_eveningOf_14 rfl ?_
    exact ev_ret (r := some (vI (s1.1 11 0 18))) d_M_eveningOf_33 rfl rfl K
set_option maxRecDepth 4000 in
theorem sg_M_how_0 {d : Nat} {σ : ST} {a1 : Int32} {a2 : Int32} {a3 : Int32} {post : Option AV → ST → Prop} (K : ((fp_M_areTwo σ a1 a2) → (Ev none (d + 4) m_M_isChapter 0 [some (vR 11 0), some (vI a3)] [] σ (fun r s2 => ∃ z3 : Int32, r = some (vI z3) ∧ (((z3 = 0) → (post (some (vI (-2 : Int32))) s2)) ∧ (¬ (z3 = 0) → (Ev none (d + 4) m_M_findBest 0 [some (vR 11 0), some (vI a1), some (vI a2), none, none, none, none, none] [] s2 (fun r s5 => r = none ∧ ((vp_in a3 8) ∧ (post (some (vI (s5.1 57 0 (a3.toNatClampNeg)))) s5))))))))) ∧ (¬ (fp_M_areTwo σ a1 a2) → (post (some (vI (-2 : Int32))) σ))) : Ev none (d + 5) m_M_how 0 [some (vR 11 0), some (vI a1), some (vI a2), some (vI a3)] [] σ post := by
  refine ev_iload_n d_M_how_0 rfl rfl ?_
  refine ev_iload_n d_M_how_1 rfl rfl ?_
  refine ev_callS (as := [vI a1, vI a2]) (st := []) g_M_areTwo ml_M_223 d_M_how_2 rfl rfl (Nat.le_of_ble_eq_true rfl) rfl (Nat.le_of_ble_eq_true rfl) ?_
  refine f_M_areTwo  ?_
  show Ev none (d + 5) m_M_how 5 [some (vR 11 0), some (vI a1), some (vI a2), some (vI a3)] [vI (bi (fp_M_areTwo σ a1 a2))] σ post
  refine ev_ifb_eq (tgt := 16) d_M_how_5 rfl (fun h1 => ?_) (fun h1 => ?_)
  · replace K := K.2 h1
    refine ev_bipush (v := -2) d_M_how_16 (by decide) ?_
    exact ev_ret (r := some (vI (-2 : Int32))) d_M_how_18 rfl rfl K
  · replace K := K.1 h1
    refine ev_aload_n d_M_how_8 rfl rfl ?_
    refine ev_iload_n d_M_how_9 rfl rfl ?_
    refine ev_callV (as := [vI a3]) (st := []) (k := 11) (i := 0) g_M_isChapter ml_M_143 rfl rfl (by decide) (by decide) d_M_how_10 rfl rfl (Nat.le_of_ble_eq_true rfl) rfl (Nat.le_of_ble_eq_true rfl) ?_
    refine Ev.mono K ?_
    rintro _ s2 ⟨z3, rfl, K⟩
    show Ev none (d + 5) m_M_how 13 [some (vR 11 0), some (vI a1), some (vI a2), some (vI a3)] [vI z3] s2 post
    refine ev_if_ne (tgt := 19) d_M_how_13 rfl (fun h4 => ?_) (fun h4 => ?_)
    · replace K := K.2 h4
      refine ev_aload_n d_M_how_19 rfl rfl ?_
      refine ev_iload_n d_M_how_20 rfl rfl ?_
      refine ev_iload_n d_M_how_21 rfl rfl ?_
      refine ev_callV (as := [vI a1, vI a2]) (st := []) (k := 11) (i := 0) g_M_findBest ml_M_226 rfl rfl (by decide) (by decide) d_M_how_22 rfl rfl (Nat.le_of_ble_eq_true rfl) rfl (Nat.le_of_ble_eq_true rfl) ?_
      refine Ev.mono K ?_
      rintro _ s5 ⟨rfl, K⟩
      show Ev none (d + 5) m_M_how 25 [some (vR 11 0), some (vI a1), some (vI a2), some (vI a3)] [] s5 post
      refine ev_aload_n d_M_how_25 rfl rfl ?_
      refine ev_getR gf_M_55 rfl (by decide) d_M_how_26 ?_
      refine ev_iload_n d_M_how_29 rfl rfl ?_
      obtain ⟨q6, K⟩ := K
      refine ev_iald rfl (by decide) (by decide) q6 d_M_how_30 ?_
      exact ev_ret (r := some (vI (s5.1 57 0 (a3.toNatClampNeg)))) d_M_how_31 rfl rfl K
    · replace K := K.1 h4
      refine ev_bipush (v := -2) d_M_how_16 (by decide) ?_
      exact ev_ret (r := some (vI (-2 : Int32))) d_M_how_18 rfl rfl K
set_option maxRecDepth 4000 in
theorem sg_M_mean_0 {d : Nat} {σ : ST} {a1 : Int32} {a2 : Int32} {post : Option AV → ST → Prop} (K : Ev none (d + 4) m_M_reads 0 [some (vR 11 0), none] [] σ (fun r s1 => ∃ z2 : Int32, r = some (vI z2) ∧ ((((fp_M_isSome s1 a1) ∧ (fp_M_isTwo s1 a2)) → (Ev none (d + 4) m_M_ones 0 [some (vI a1), none, none] [] s1 (fun r s5 => ∃ z6 : Int32, r = some (vI z6) ∧ (((z6 ≤ (3 : Int32)) → (Ev none (d + 4) m_M_meanOf 0 [some (vR 11 0), some (vI a1), some (vI a2), none, none, none, none] [] s5 (fun r s8 => ∃ z9 : Int64, r = some (vJ z9) ∧ (post (some (vJ z9)) s8)))) ∧ (¬ (z6 ≤ (3 : Int32)) → (post (some (vJ (fn_M_no s5 (-4 : Int32)))) s5)))))) ∧ (¬ ((fp_M_isSome s1 a1) ∧ (fp_M_isTwo s1 a2)) → (post (some (vJ (fn_M_no s1 (-2 : Int32)))) s1))))) : Ev none (d + 5) m_M_mean 0 [some (vR 11 0), some (vI a1), some (vI a2)] [] σ post := by
  refine ev_aload_n d_M_mean_0 rfl rfl ?_
  refine ev_callV (as := []) (st := []) (k := 11) (i := 0) g_M_reads ml_M_131 rfl rfl (by decide) (by decide) d_M_mean_1 rfl rfl (Nat.le_of_ble_eq_true rfl) rfl (Nat.le_of_ble_eq_true rfl) ?_
  refine Ev.mono K ?_
  rintro _ s1 ⟨z2, rfl, K⟩
  show Ev none (d + 5) m_M_mean 4 [some (vR 11 0), some (vI a1), some (vI a2)] [vI z2] s1 post
  refine ev_pop d_M_mean_4 rfl ?_
  refine ev_iload_n d_M_mean_5 rfl rfl ?_
  refine ev_callS (as := [vI a1]) (st := []) g_M_isSome ml_M_198 d_M_mean_6 rfl rfl (Nat.le_of_ble_eq_true rfl) rfl (Nat.le_of_ble_eq_true rfl) ?_
  refine f_M_isSome  ?_
  show Ev none (d + 5) m_M_mean 9 [some (vR 11 0), some (vI a1), some (vI a2)] [vI (bi (fp_M_isSome s1 a1))] s1 post
  obtain ⟨w3, e4⟩ : ∃ w : Int32, w = bi ((fp_M_isSome s1 a1) ∧ (fp_M_isTwo s1 a2)) := ⟨_, rfl⟩
  have J1 : w3 = 1 → Ev none (d + 5) m_M_mean 25 [some (vR 11 0), some (vI a1), some (vI a2)] [] s1 post := by
    intro e41
    replace K := K.1 (bi_1.mp ((e4.symm).trans e41))
    refine ev_iload_n d_M_mean_25 rfl rfl ?_
    refine ev_callS (as := [vI a1]) (st := []) g_M_ones ml_M_246 d_M_mean_26 rfl rfl (Nat.le_of_ble_eq_true rfl) rfl (Nat.le_of_ble_eq_true rfl) ?_
    refine Ev.mono K ?_
    rintro _ s5 ⟨z6, rfl, K⟩
    show Ev none (d + 5) m_M_mean 29 [some (vR 11 0), some (vI a1), some (vI a2)] [vI z6] s5 post
    refine ev_iconst (v := 3) d_M_mean_29 (by decide) ?_
    refine ev_icmp_le (tgt := 41) d_M_mean_30 rfl (fun h7 => ?_) (fun h7 => ?_)
    · replace K := K.1 h7
      refine ev_aload_n d_M_mean_41 rfl rfl ?_
      refine ev_iload_n d_M_mean_42 rfl rfl ?_
      refine ev_iload_n d_M_mean_43 rfl rfl ?_
      refine ev_callV (as := [vI a1, vI a2]) (st := []) (k := 11) (i := 0) g_M_meanOf ml_M_299 rfl rfl (by decide) (by decide) d_M_mean_44 rfl rfl (Nat.le_of_ble_eq_true rfl) rfl (Nat.le_of_ble_eq_true rfl) ?_
      refine Ev.mono K ?_
      rintro _ s8 ⟨z9, rfl, K⟩
      show Ev none (d + 5) m_M_mean 47 [some (vR 11 0), some (vI a1), some (vI a2)] [vJ z9] s8 post
      exact ev_ret (r := some (vJ z9)) d_M_mean_47 rfl rfl K
    · replace K := K.2 h7
      refine ev_bipush (v := -4) d_M_mean_33 (by decide) ?_
      refine ev_callS (as := [vI (-4 : Int32)]) (st := []) g_M_no ml_M_291 d_M_mean_35 rfl rfl (Nat.le_of_ble_eq_true rfl) rfl (Nat.le_of_ble_eq_true rfl) ?_
      refine f_M_no  ?_
      show Ev none (d + 5) m_M_mean 38 [some (vR 11 0), some (vI a1), some (vI a2)] [vJ (fn_M_no s5 (-4 : Int32))] s5 post
      refine ev_goto (tgt := 47) d_M_mean_38 rfl ?_
      exact ev_ret (r := some (vJ (fn_M_no s5 (-4 : Int32)))) d_M_mean_47 rfl rfl K
  have J0 : w3 = 0 → Ev none (d + 5) m_M_mean 19 [some (vR 11 0), some (vI a1), some (vI a2)] [] s1 post := by
    intro e40
    replace K := K.2 (bi_0.mp ((e4.symm).trans e40))
    refine ev_bipush (v := -2) d_M_mean_19 (by decide) ?_
    refine ev_callS (as := [vI (-2 : Int32)]) (st := []) g_M_no ml_M_291 d_M_mean_21 rfl rfl (Nat.le_of_ble_eq_true rfl) rfl (Nat.le_of_ble_eq_true rfl) ?_
    refine f_M_no  ?_
    show Ev none (d + 5) m_M_mean 24 [some (vR 11 0), some (vI a1), some (vI a2)] [vJ (fn_M_no s1 (-2 : Int32))] s1 post
    exact ev_ret (r := some (vJ (fn_M_no s1 (-2 : Int32)))) d_M_mean_24 rfl rfl K
  clear K
  refine ev_ifb_eq (tgt := 19) d_M_mean_9 rfl (fun h10 => ?_) (fun h10 => ?_)
  · rw [b3f h10] at e4
    exact J0 e4
  · rw [b3t h10] at e4
    refine ev_iload_n d_M_mean_12 rfl rfl ?_
    refine ev_callS (as := [vI a2]) (st := []) g_M_isTwo ml_M_160 d_M_mean_13 rfl rfl (Nat.le_of_ble_eq_true rfl) rfl (Nat.le_of_ble_eq_true rfl) ?_
    refine f_M_isTwo  ?_
    show Ev none (d + 5) m_M_mean 16 [some (vR 11 0), some (vI a1), some (vI a2)] [vI (bi (fp_M_isTwo s1 a2))] s1 post
    refine ev_ifb_ne (tgt := 25) d_M_mean_16 rfl (fun h11 => ?_) (fun h11 => ?_)
    · rw [bi_t h11] at e4
      exact J1 e4
    · rw [bi_f h11] at e4
      exact J0 e4
set_option maxRecDepth 4000 in
theorem sg_M_paces_0 {d : Nat} {σ : ST} {a1 : Int32} {a2 : Int32} {post : Option AV → ST → Prop} (K : Ev none (d + 4) m_M_reads 0 [some (vR 11 0), none] [] σ (fun r s1 => ∃ z2 : Int32, r = some (vI z2) ∧ (((¬ (fp_M_isReader s1 a1) ∨ (¬ (fp_M_in s1 (Int32.toInt64 a2) (0 : Int64) (2 : Int64)))) → (post (some (vI (-2 : Int32))) s1)) ∧ (¬ (¬ (fp_M_isReader s1 a1) ∨ (¬ (fp_M_in s1 (Int32.toInt64 a2) (0 : Int64) (2 : Int64)))) → (Ev none (d + 4) m_M_pacesOf 0 [some (vR 11 0), some (vI a1), some (vI a2), none, none, none, none, none, none, none, none] [] s1 (fun r s5 => ∃ z6 : Int32, r = some (vI z6) ∧ (post (some (vI z6)) s5))))))) : Ev none (d + 5) m_M_paces 0 [some (vR 11 0), some (vI a1), some (vI a2)] [] σ post := by
  refine ev_aload_n d_M_paces_0 rfl rfl ?_
  refine ev_callV (as := []) (st := []) (k := 11) (i := 0) g_M_reads ml_M_131 rfl rfl (by decide) (by decide) d_M_paces_1 rfl rfl (Nat.le_of_ble_eq_true rfl) rfl (Nat.le_of_ble_eq_true rfl) ?_
  refine Ev.mono K ?_
  rintro _ s1 ⟨z2, rfl, K⟩
  show Ev none (d + 5) m_M_paces 4 [some (vR 11 0), some (vI a1), some (vI a2)] [vI z2] s1 post
  refine ev_pop d_M_paces_4 rfl ?_
  refine ev_iload_n d_M_paces_5 rfl rfl ?_
  refine ev_callS (as := [vI a1]) (st := []) g_M_isReader ml_M_149 d_M_paces_6 rfl rfl (Nat.le_of_ble_eq_true rfl) rfl (Nat.le_of_ble_eq_true rfl) ?_
  refine f_M_isReader  ?_
  show Ev none (d + 5) m_M_paces 9 [some (vR 11 0), some (vI a1), some (vI a2)] [vI (bi (fp_M_isReader s1 a1))] s1 post
  obtain ⟨w3, e4⟩ : ∃ w : Int32, w = bi (¬ (fp_M_isReader s1 a1) ∨ (¬ (fp_M_in s1 (Int32.toInt64 a2) (0 : Int64) (2 : Int64)))) := ⟨_, rfl⟩
  have J1 : w3 = 1 → Ev none (d + 5) m_M_paces 33 [some (vR 11 0), some (vI a1), some (vI a2)] [] s1 post := by
    intro e41
    replace K := K.1 (bi_1.mp ((e4.symm).trans e41))
    refine ev_bipush (v := -2) d_M_paces_33 (by decide) ?_
    exact ev_ret (r := some (vI (-2 : Int32))) d_M_paces_35 rfl rfl K
  have J0 : w3 = 0 → Ev none (d + 5) m_M_paces 24 [some (vR 11 0), some (vI a1), some (vI a2)] [] s1 post := by
    intro e40
    replace K := K.2 (bi_0.mp ((e4.symm).trans e40))
    refine ev_aload_n d_M_paces_24 rfl rfl ?_
    refine ev_iload_n d_M_paces_25 rfl rfl ?_
    refine ev_iload_n d_M_paces_26 rfl rfl ?_
    refine ev_callV (as := [vI a1, vI a2]) (st := []) (k := 11) (i := 0) g_M_pacesOf ml_M_264 rfl rfl (by decide) (by decide) d_M_paces_27 rfl rfl (Nat.le_of_ble_eq_true rfl) rfl (Nat.le_of_ble_eq_true rfl) ?_
    refine Ev.mono K ?_
    rintro _ s5 ⟨z6, rfl, K⟩
    show Ev none (d + 5) m_M_paces 30 [some (vR 11 0), some (vI a1), some (vI a2)] [vI z6] s5 post
    refine ev_goto (tgt := 35) d_M_paces_30 rfl ?_
    exact ev_ret (r := some (vI z6)) d_M_paces_35 rfl rfl K
  clear K
  refine ev_ifb_eq (tgt := 33) d_M_paces_9 rfl (fun h7 => ?_) (fun h7 => ?_)
  · rw [b6f h7] at e4
    exact J1 e4
  · rw [b6t h7] at e4
    refine ev_iload_n d_M_paces_12 rfl rfl ?_
    refine ev_i2l d_M_paces_13 ?_
    refine ev_lconst (v := 0) d_M_paces_14 (by decide) ?_
    refine ev_ldc2 d_M_paces_15 cn_M_90 ?_
    refine ev_callS (as := [vJ (Int32.toInt64 a2), vJ (0 : Int64), vJ (2 : Int64)]) (st := []) g_M_in ml_M_76 d_M_paces_18 rfl rfl (Nat.le_of_ble_eq_true rfl) rfl (Nat.le_of_ble_eq_true rfl) ?_
    refine f_M_in  ?_
    show Ev none (d + 5) m_M_paces 21 [some (vR 11 0), some (vI a1), some (vI a2)] [vI (bi (fp_M_in s1 (Int32.toInt64 a2) (0 : Int64) (2 : Int64)))] s1 post
    refine ev_ifb_eq (tgt := 33) d_M_paces_21 rfl (fun h8 => ?_) (fun h8 => ?_)
    · rw [bi_t h8] at e4
      exact J1 e4
    · rw [bi_f (not_not_intro h8)] at e4
      exact J0 e4
set_option maxRecDepth 4000 in
theorem sg_M_pairsOf_0 {d : Nat} {σ : ST} {a1 : Int32} {a2 : Int32} {post : Option AV → ST → Prop} (K : Ev none (d + 4) m_M_findPairs 0 [some (vR 11 0), none, none, none, none, none] [] σ (fun r s1 => r = none ∧ (((a2 = (-1 : Int32)) → ((vp_in a1 64) ∧ (post (some (vI (s1.1 58 0 (a1.toNatClampNeg)))) s1))) ∧ (¬ (a2 = (-1 : Int32)) → (Ev none (d + 5) m_M_pairsOf 18 [some (vR 11 0), none, some (vI a2), some (vI a1), none, none] [] s1 post))))) : Ev none (d + 5) m_M_pairsOf 0 [some (vR 11 0), some (vI a1), some (vI a2), none, none, none] [] σ post := by
  refine ev_aload_n d_M_pairsOf_0 rfl rfl ?_
  refine ev_callV (as := []) (st := []) (k := 11) (i := 0) g_M_findPairs ml_M_255 rfl rfl (by decide) (by decide) d_M_pairsOf_1 rfl rfl (Nat.le_of_ble_eq_true rfl) rfl (Nat.le_of_ble_eq_true rfl) ?_
  refine Ev.mono K ?_
  rintro _ s1 ⟨rfl, K⟩
  show Ev none (d + 5) m_M_pairsOf 4 [some (vR 11 0), some (vI a1), some (vI a2), none, none, none] [] s1 post
  refine ev_iload_n d_M_pairsOf_4 rfl rfl ?_
  refine ev_iconst (v := -1) d_M_pairsOf_5 (by decide) ?_
  refine ev_icmp_ne (tgt := 16) d_M_pairsOf_6 rfl (fun h2 => ?_) (fun h2 => ?_)
  · replace K := K.2 h2
    refine ev_iload_n d_M_pairsOf_16 rfl rfl ?_
    refine ev_istore_n (L' := [some (vR 11 0), some (vI a1), some (vI a2), some (vI a1), none, none]) d_M_pairsOf_17 rfl (by decide) rfl ?_
    exact Ev.wk (lsub_kp (lsub_sk (lsub_kp (lsub_kp (lsub_sk (lsub_sk (lsub_nil))))))) K
  · replace K := K.1 h2
    refine ev_aload_n d_M_pairsOf_9 rfl rfl ?_
    refine ev_getR gf_M_58 rfl (by decide) d_M_pairsOf_10 ?_
    refine ev_iload_n d_M_pairsOf_13 rfl rfl ?_
    obtain ⟨q3, K⟩ := K
    refine ev_iald rfl (by decide) (by decide) q3 d_M_pairsOf_14 ?_
    exact ev_ret (r := some (vI (s1.1 58 0 (a1.toNatClampNeg)))) d_M_pairsOf_15 rfl rfl K
set_option maxRecDepth 4000 in
theorem sg_M_pairsOf_18 {d : Nat} {σ : ST} {a2 : Int32} {a3 : Int32} {post : Option AV → ST → Prop} (K : Ev none (d + 4) m_M_first 0 [some (vI a3), none] [] σ (fun r s1 => ∃ z2 : Int32, r = some (vI z2) ∧ ((vp_in a3 64) ∧ (((z2 = a2) → (((z2 = a2) → (post (some (vI (s1.1 59 0 (a3.toNatClampNeg)))) s1)) ∧ (¬ (z2 = a2) → (post (some (vI z2)) s1)))) ∧ (¬ (z2 = a2) → ((((s1.1 59 0 (a3.toNatClampNeg)) = a2) → (((z2 = a2) → (post (some (vI (s1.1 59 0 (a3.toNatClampNeg)))) s1)) ∧ (¬ (z2 = a2) → (post (some (vI z2)) s1)))) ∧ (¬ ((s1.1 59 0 (a3.toNatClampNeg)) = a2) → (Ev none (d + 5) m_M_pairsOf 18 [some (vR 11 0), none, some (vI a2), some (vI ((a3 &&& ((isl (1 : Int32) z2) ^^^ (-1 : Int32))) &&& ((isl (1 : Int32) (s1.1 59 0 (a3.toNatClampNeg))) ^^^ (-1 : Int32)))), none, none] [] s1 post)))))))) : Ev none (d + 5) m_M_pairsOf 18 [some (vR 11 0), none, some (vI a2), some (vI a3), none, none] [] σ post := by
  refine ev_iload_n d_M_pairsOf_18 rfl rfl ?_
  refine ev_callS (as := [vI a3]) (st := []) g_M_first ml_M_249 d_M_pairsOf_19 rfl rfl (Nat.le_of_ble_eq_true rfl) rfl (Nat.le_of_ble_eq_true rfl) ?_
  refine Ev.mono K ?_
  rintro _ s1 ⟨z2, rfl, K⟩
  show Ev none (d + 5) m_M_pairsOf 22 [some (vR 11 0), none, some (vI a2), some (vI a3), none, none] [vI z2] s1 post
  refine ev_istore (L' := [some (vR 11 0), none, some (vI a2), some (vI a3), some (vI z2), none]) d_M_pairsOf_22 (by decide) rfl ?_
  refine ev_aload_n d_M_pairsOf_24 rfl rfl ?_
  refine ev_getR gf_M_61 rfl (by decide) d_M_pairsOf_25 ?_
  refine ev_iload_n d_M_pairsOf_28 rfl rfl ?_
  obtain ⟨q3, K⟩ := K
  refine ev_iald rfl (by decide) (by decide) q3 d_M_pairsOf_29 ?_
  refine ev_istore (L' := [some (vR 11 0), none, some (vI a2), some (vI a3), some (vI z2), some (vI (s1.1 59 0 (a3.toNatClampNeg)))]) d_M_pairsOf_30 (by decide) rfl ?_
  refine ev_iload d_M_pairsOf_32 rfl ?_
  refine ev_iload_n d_M_pairsOf_34 rfl rfl ?_
  refine ev_icmp_eq (tgt := 44) d_M_pairsOf_35 rfl (fun h4 => ?_) (fun h4 => ?_)
  · replace K := K.1 h4
    refine ev_iload d_M_pairsOf_44 rfl ?_
    refine ev_iload_n d_M_pairsOf_46 rfl rfl ?_
    refine ev_icmp_ne (tgt := 55) d_M_pairsOf_47 rfl (fun h5 => ?_) (fun h5 => ?_)
    · replace K := K.2 h5
      refine ev_iload d_M_pairsOf_55 rfl ?_
      exact ev_ret (r := some (vI z2)) d_M_pairsOf_57 rfl rfl K
    · replace K := K.1 h5
      refine ev_iload d_M_pairsOf_50 rfl ?_
      refine ev_goto (tgt := 57) d_M_pairsOf_52 rfl ?_
      exact ev_ret (r := some (vI (s1.1 59 0 (a3.toNatClampNeg)))) d_M_pairsOf_57 rfl rfl K
  · replace K := K.2 h4
    refine ev_iload d_M_pairsOf_38 rfl ?_
    refine ev_iload_n d_M_pairsOf_40 rfl rfl ?_
    refine ev_icmp_ne (tgt := 58) d_M_pairsOf_41 rfl (fun h6 => ?_) (fun h6 => ?_)
    · replace K := K.2 h6
      refine ev_iload_n d_M_pairsOf_58 rfl rfl ?_
      refine ev_iconst (v := 1) d_M_pairsOf_59 (by decide) ?_
      refine ev_iload d_M_pairsOf_60 rfl ?_
      refine ev_ishl d_M_pairsOf_62 ?_
      refine ev_iconst (v := -1) d_M_pairsOf_63 (by decide) ?_
      refine ev_ixor d_M_pairsOf_64 ?_
      refine ev_iand d_M_pairsOf_65 ?_
      refine ev_iconst (v := 1) d_M_pairsOf_66 (by decide) ?_
      refine ev_iload d_M_pairsOf_67 rfl ?_
      refine ev_ishl d_M_pairsOf_69 ?_
      refine ev_iconst (v := -1) d_M_pairsOf_70 (by decide) ?_
      refine ev_ixor d_M_pairsOf_71 ?_
      refine ev_iand d_M_pairsOf_72 ?_
      refine ev_istore_n (L' := [some (vR 11 0), none, some (vI a2), some (vI ((a3 &&& ((isl (1 : Int32) z2) ^^^ (-1 : Int32))) &&& ((isl (1 : Int32) (s1.1 59 0 (a3.toNatClampNeg))) ^^^ (-1 : Int32)))), some (vI z2), some (vI (s1.1 59 0 (a3.toNatClampNeg)))]) d_M_pairsOf_73 rfl (by decide) rfl ?_
      refine ev_goto (tgt := 18) d_M_pairsOf_74 rfl ?_
      exact Ev.wk (lsub_kp (lsub_sk (lsub_kp (lsub_kp (lsub_sk (lsub_sk (lsub_nil))))))) K
    · replace K := K.1 h6
      refine ev_iload d_M_pairsOf_44 rfl ?_
      refine ev_iload_n d_M_pairsOf_46 rfl rfl ?_
      refine ev_icmp_ne (tgt := 55) d_M_pairsOf_47 rfl (fun h7 => ?_) (fun h7 => ?_)
      · replace K := K.2 h7
        refine ev_iload d_M_pairsOf_55 rfl ?_
        exact ev_ret (r := some (vI z2)) d_M_pairsOf_57 rfl rfl K
      · replace K := K.1 h7
        refine ev_iload d_M_pairsOf_50 rfl ?_
        refine ev_goto (tgt := 57) d_M_pairsOf_52 rfl ?_
        exact ev_ret (r := some (vI (s1.1 59 0 (a3.toNatClampNeg)))) d_M_pairsOf_57 rfl rfl K
set_option maxRecDepth 4000 in
theorem sg_M_restsOf_0 {d : Nat} {σ : ST} {a1 : Int32} {a2 : Int32} {a3 : Int32} {post : Option AV → ST → Prop} (K : Ev none (d + 5) m_M_restsOf 6 [some (vR 11 0), some (vI a1), some (vI a2), some (vI a3), some (vI (0 : Int32)), some (vI (0 : Int32))] [] σ post) : Ev none (d + 5) m_M_restsOf 0 [some (vR 11 0), some (vI a1), some (vI a2), some (vI a3), none, none] [] σ post := by
  refine ev_iconst (v := 0) d_M_restsOf_0 (by decide) ?_
  refine ev_istore (L' := [some (vR 11 0), some (vI a1), some (vI a2), some (vI a3), some (vI (0 : Int32)), none]) d_M_restsOf_1 (by decide) rfl ?_
  refine ev_iconst (v := 0) d_M_restsOf_3 (by decide) ?_
  refine ev_istore (L' := [some (vR 11 0), some (vI a1), some (vI a2), some (vI a3), some (vI (0 : Int32)), some (vI (0 : Int32))]) d_M_restsOf_4 (by decide) rfl ?_
  exact K
set_option maxRecDepth 4000 in
theorem sg_M_restsOf_6 {d : Nat} {σ : ST} {a1 : Int32} {a2 : Int32} {a3 : Int32} {a4 : Int32} {a5 : Int32} {post : Option AV → ST → Prop} (K : (((16 : Int32) ≤ a5) → (((a3 = (-1 : Int32)) → (post (some (vI a4)) σ)) ∧ (¬ (a3 = (-1 : Int32)) → (post (some (vI (-1 : Int32))) σ)))) ∧ (¬ ((16 : Int32) ≤ a5) → (Ev none (d + 4) m_M_isRest 0 [some (vR 11 0), some (vI a1), some (vI a2), some (vI (a5 / (4 : Int32))), some (vI (irm a5 (4 : Int32))), none, none] [] σ (fun r s3 => ∃ z4 : Int32, r = some (vI z4) ∧ (((z4 = 0) → (Ev none (d + 5) m_M_restsOf 6 [some (vR 11 0), some (vI a1), some (vI a2), some (vI a3), some (vI a4), some (vI (a5 + (1 : Int32)))] [] s3 post)) ∧ (¬ (z4 = 0) → (((a4 = a3) → (post (some (vI a5)) s3)) ∧ (¬ (a4 = a3) → (Ev none (d + 5) m_M_restsOf 6 [some (vR 11 0), some (vI a1), some (vI a2), some (vI a3), some (vI (a4 + (1 : Int32))), some (vI (a5 + (1 : Int32)))] [] s3 post))))))))) : Ev none (d + 5) m_M_restsOf 6 [some (vR 11 0), some (vI a1), some (vI a2), some (vI a3), some (vI a4), some (vI a5)] [] σ post := by
  refine ev_iload d_M_restsOf_6 rfl ?_
  refine ev_bipush (v := 16) d_M_restsOf_8 (by decide) ?_
  refine ev_icmp_ge (tgt := 48) d_M_restsOf_10 rfl (fun h1 => ?_) (fun h1 => ?_)
  · replace K := K.1 h1
    refine ev_iload_n d_M_restsOf_48 rfl rfl ?_
    refine ev_iconst (v := -1) d_M_restsOf_49 (by decide) ?_
    refine ev_icmp_ne (tgt := 58) d_M_restsOf_50 rfl (fun h2 => ?_) (fun h2 => ?_)
    · replace K := K.2 h2
      refine ev_iconst (v := -1) d_M_restsOf_58 (by decide) ?_
      exact ev_ret (r := some (vI (-1 : Int32))) d_M_restsOf_59 rfl rfl K
    · replace K := K.1 h2
      refine ev_iload d_M_restsOf_53 rfl ?_
      refine ev_goto (tgt := 59) d_M_restsOf_55 rfl ?_
      exact ev_ret (r := some (vI a4)) d_M_restsOf_59 rfl rfl K
  · replace K := K.2 h1
    refine ev_aload_n d_M_restsOf_13 rfl rfl ?_
    refine ev_iload_n d_M_restsOf_14 rfl rfl ?_
    refine ev_iload_n d_M_restsOf_15 rfl rfl ?_
    refine ev_iload d_M_restsOf_16 rfl ?_
    refine ev_iconst (v := 4) d_M_restsOf_18 (by decide) ?_
    refine ev_idiv d_M_restsOf_19 (by decide) ?_
    refine ev_iload d_M_restsOf_20 rfl ?_
    refine ev_iconst (v := 4) d_M_restsOf_22 (by decide) ?_
    refine ev_irem d_M_restsOf_23 (by decide) ?_
    refine ev_callV (as := [vI a1, vI a2, vI (a5 / (4 : Int32)), vI (irm a5 (4 : Int32))]) (st := []) (k := 11) (i := 0) g_M_isRest ml_M_238 rfl rfl (by decide) (by decide) d_M_restsOf_24 rfl rfl (Nat.le_of_ble_eq_true rfl) rfl (Nat.le_of_ble_eq_true rfl) ?_
    refine Ev.mono K ?_
    rintro _ s3 ⟨z4, rfl, K⟩
    show Ev none (d + 5) m_M_restsOf 27 [some (vR 11 0), some (vI a1), some (vI a2), some (vI a3), some (vI a4), some (vI a5)] [vI z4] s3 post
    refine ev_if_eq (tgt := 42) d_M_restsOf_27 rfl (fun h5 => ?_) (fun h5 => ?_)
    · replace K := K.1 h5
      refine ev_iinc (v := a5 + (1 : Int32)) (L' := [some (vR 11 0), some (vI a1), some (vI a2), some (vI a3), some (vI a4), some (vI (a5 + (1 : Int32)))]) d_M_restsOf_42 rfl (congrArg (a5 + ·) (by decide)) (by decide) rfl ?_
      refine ev_goto (tgt := 6) d_M_restsOf_45 rfl ?_
      exact K
    · replace K := K.2 h5
      refine ev_iload d_M_restsOf_30 rfl ?_
      refine ev_iload_n d_M_restsOf_32 rfl rfl ?_
      refine ev_icmp_ne (tgt := 39) d_M_restsOf_33 rfl (fun h6 => ?_) (fun h6 => ?_)
      · replace K := K.2 h6
        refine ev_iinc (v := a4 + (1 : Int32)) (L' := [some (vR 11 0), some (vI a1), some (vI a2), some (vI a3), some (vI (a4 + (1 : Int32))), some (vI a5)]) d_M_restsOf_39 rfl (congrArg (a4 + ·) (by decide)) (by decide) rfl ?_
        refine ev_iinc (v := a5 + (1 : Int32)) (L' := [some (vR 11 0), some (vI a1), some (vI a2), some (vI a3), some (vI (a4 + (1 : Int32))), some (vI (a5 + (1 : Int32)))]) d_M_restsOf_42 rfl (congrArg (a5 + ·) (by decide)) (by decide) rfl ?_
        refine ev_goto (tgt := 6) d_M_restsOf_45 rfl ?_
        exact K
      · replace K := K.1 h6
        refine ev_iload d_M_restsOf_36 rfl ?_
        exact ev_ret (r := some (vI a5)) d_M_restsOf_38 rfl rfl K
set_option maxRecDepth 4000 in
theorem sg_M_unlike_0 {d : Nat} {σ : ST}  {post : Option AV → ST → Prop} (K : Ev none (d + 4) m_M_reads 0 [some (vR 11 0), none] [] σ (fun r s1 => ∃ z2 : Int32, r = some (vI z2) ∧ (Ev none (d + 4) m_M_unlikeNow 0 [some (vR 11 0), none, none, none] [] s1 (fun r s3 => ∃ z4 : Int32, r = some (vI z4) ∧ (post (some (vI z4)) s3))))) : Ev none (d + 5) m_M_unlike 0 [some (vR 11 0)] [] σ post := by
  refine ev_aload_n d_M_unlike_0 rfl rfl ?_
  refine ev_callV (as := []) (st := []) (k := 11) (i := 0) g_M_reads ml_M_131 rfl rfl (by decide) (by decide) d_M_unlike_1 rfl rfl (Nat.le_of_ble_eq_true rfl) rfl (Nat.le_of_ble_eq_true rfl) ?_
  refine Ev.mono K ?_
  rintro _ s1 ⟨z2, rfl, K⟩
  show Ev none (d + 5) m_M_unlike 4 [some (vR 11 0)] [vI z2] s1 post
  refine ev_pop d_M_unlike_4 rfl ?_
  refine ev_aload_n d_M_unlike_5 rfl rfl ?_
  refine ev_callV (as := []) (st := []) (k := 11) (i := 0) g_M_unlikeNow ml_M_267 rfl rfl (by decide) (by decide) d_M_unlike_6 rfl rfl (Nat.le_of_ble_eq_true rfl) rfl (Nat.le_of_ble_eq_true rfl) ?_
  refine Ev.mono K ?_
  rintro _ s3 ⟨z4, rfl, K⟩
  show Ev none (d + 5) m_M_unlike 9 [some (vR 11 0)] [vI z4] s3 post
  exact ev_ret (r := some (vI z4)) d_M_unlike_9 rfl rfl K
set_option maxRecDepth 4000 in
theorem sg_M_waitedOf_0 {d : Nat} {σ : ST} {a1 : Int32} {a2 : Int32} {a3 : Int32} {a4 : Int32} {post : Option AV → ST → Prop} (K : Ev none (d + 4) m_M_findEvening 0 [some (vR 11 0), some (vI a1), some (vI a2), none, none, none] [] σ (fun r s1 => r = none ∧ ((vp_in a3 6) ∧ ((vp_in a3 6) ∧ (((a4 = 0) → ((vp_in a3 6) ∧ (post (some (vI (s1.1 55 0 (a3.toNatClampNeg)))) s1))) ∧ (¬ (a4 = 0) → (((0 ≤ ((s1.1 51 0 (a3.toNatClampNeg)) - (s1.1 55 0 (a3.toNatClampNeg)))) → (post (some (vI ((s1.1 51 0 (a3.toNatClampNeg)) - (s1.1 55 0 (a3.toNatClampNeg))))) s1)) ∧ (¬ (0 ≤ ((s1.1 51 0 (a3.toNatClampNeg)) - (s1.1 55 0 (a3.toNatClampNeg)))) → (post (some (vI (0 : Int32))) s1))))))))) : Ev none (d + 5) m_M_waitedOf 0 [some (vR 11 0), some (vI a1), some (vI a2), some (vI a3), some (vI a4), none] [] σ post := by
  refine ev_aload_n d_M_waitedOf_0 rfl rfl ?_
  refine ev_iload_n d_M_waitedOf_1 rfl rfl ?_
  refine ev_iload_n d_M_waitedOf_2 rfl rfl ?_
  refine ev_callV (as := [vI a1, vI a2]) (st := []) (k := 11) (i := 0) g_M_findEvening ml_M_194 rfl rfl (by decide) (by decide) d_M_waitedOf_3 rfl rfl (Nat.le_of_ble_eq_true rfl) rfl (Nat.le_of_ble_eq_true rfl) ?_
  refine Ev.mono K ?_
  rintro _ s1 ⟨rfl, K⟩
  show Ev none (d + 5) m_M_waitedOf 6 [some (vR 11 0), some (vI a1), some (vI a2), some (vI a3), some (vI a4), none] [] s1 post
  refine ev_aload_n d_M_waitedOf_6 rfl rfl ?_
  refine ev_getR gf_M_37 rfl (by decide) d_M_waitedOf_7 ?_
  refine ev_iload_n d_M_waitedOf_10 rfl rfl ?_
  obtain ⟨q2, K⟩ := K
  refine ev_iald rfl (by decide) (by decide) q2 d_M_waitedOf_11 ?_
  refine ev_aload_n d_M_waitedOf_12 rfl rfl ?_
  refine ev_getR gf_M_49 rfl (by decide) d_M_waitedOf_13 ?_
  refine ev_iload_n d_M_waitedOf_16 rfl rfl ?_
  obtain ⟨q3, K⟩ := K
  refine ev_iald rfl (by decide) (by decide) q3 d_M_waitedOf_17 ?_
  refine ev_isub d_M_waitedOf_18 ?_
  refine ev_istore (L' := [some (vR 11 0), some (vI a1), some (vI a2), some (vI a3), some (vI a4), some (vI ((s1.1 51 0 (a3.toNatClampNeg)) - (s1.1 55 0 (a3.toNatClampNeg))))]) d_M_waitedOf_19 (by decide) rfl ?_
  refine ev_iload d_M_waitedOf_21 rfl ?_
  refine ev_if_ne (tgt := 35) d_M_waitedOf_23 rfl (fun h4 => ?_) (fun h4 => ?_)
  · replace K := K.2 h4
    refine ev_iload d_M_waitedOf_35 rfl ?_
    refine ev_if_ge (tgt := 44) d_M_waitedOf_37 rfl (fun h5 => ?_) (fun h5 => ?_)
    · replace K := K.1 h5
      refine ev_iload d_M_waitedOf_44 rfl ?_
      exact ev_ret (r := some (vI ((s1.1 51 0 (a3.toNatClampNeg)) - (s1.1 55 0 (a3.toNatClampNeg))))) d_M_waitedOf_46 rfl rfl K
    · replace K := K.2 h5
      refine ev_iconst (v := 0) d_M_waitedOf_40 (by decide) ?_
      refine ev_goto (tgt := 46) d_M_waitedOf_41 rfl ?_
      exact ev_ret (r := some (vI (0 : Int32))) d_M_waitedOf_46 rfl rfl K
  · replace K := K.1 h4
    refine ev_aload_n d_M_waitedOf_26 rfl rfl ?_
    refine ev_getR gf_M_49 rfl (by decide) d_M_waitedOf_27 ?_
    refine ev_iload_n d_M_waitedOf_30 rfl rfl ?_
    obtain ⟨q6, K⟩ := K
    refine ev_iald rfl (by decide) (by decide) q6 d_M_waitedOf_31 ?_
    refine ev_goto (tgt := 46) d_M_waitedOf_32 rfl ?_
    exact ev_ret (r := some (vI (s1.1 55 0 (a3.toNatClampNeg)))) d_M_waitedOf_46 rfl rfl K
set_option maxRecDepth 4000 in
theorem sg_M_digest_0 {d : Nat} {σ : ST}  {post : Option AV → ST → Prop} (K : Ev none (d + 6) m_M_digest 6 [some (vR 11 0), some (vJ (17 : Int64)), none, some (vI (0 : Int32)), none] [] σ post) : Ev none (d + 6) m_M_digest 0 [some (vR 11 0), none, none, none, none] [] σ post := by
  refine ev_ldc2 d_M_digest_0 cn_M_302 ?_
  refine ev_lstore_n (L' := [some (vR 11 0), some (vJ (17 : Int64)), none, none, none]) d_M_digest_3 rfl (by decide) rfl ?_
  refine ev_iconst (v := 0) d_M_digest_4 (by decide) ?_
  refine ev_istore_n (L' := [some (vR 11 0), some (vJ (17 : Int64)), none, some (vI (0 : Int32)), none]) d_M_digest_5 rfl (by decide) rfl ?_
  exact K
set_option maxRecDepth 4000 in
theorem sg_M_digest_6 {d : Nat} {σ : ST} {a1 : Int64} {a3 : Int32} {post : Option AV → ST → Prop} (K : (((8 : Int32) ≤ a3) → (Ev none (d + 5) m_M_reads 0 [some (vR 11 0), none] [] σ (fun r s2 => ∃ z3 : Int32, r = some (vI z3) ∧ (Ev none (d + 5) m_M_findBest 0 [some (vR 11 0), some (vI (0 : Int32)), some (vI (1 : Int32)), none, none, none, none, none] [] s2 (fun r s4 => r = none ∧ (Ev none (d + 6) m_M_digest 51 [some (vR 11 0), some (vJ (((31 : Int64) * a1) + (Int32.toInt64 z3))), none, some (vI (0 : Int32)), none] [] s4 post)))))) ∧ (¬ ((8 : Int32) ≤ a3) → (Ev none (d + 5) m_M_count 0 [some (vR 11 0), some (vI a3), none, none] [] σ (fun r s5 => ∃ z6 : Int32, r = some (vI z6) ∧ (Ev none (d + 6) m_M_digest 6 [some (vR 11 0), some (vJ (((31 : Int64) * a1) + (Int32.toInt64 z6))), none, some (vI (a3 + (1 : Int32))), none] [] s5 post))))) : Ev none (d + 6) m_M_digest 6 [some (vR 11 0), some (vJ a1), none, some (vI a3), none] [] σ post := by
  refine ev_iload_n d_M_digest_6 rfl rfl ?_
  refine ev_bipush (v := 8) d_M_digest_7 (by decide) ?_
  refine ev_icmp_ge (tgt := 31) d_M_digest_9 rfl (fun h1 => ?_) (fun h1 => ?_)
  · replace K := K.1 h1
    refine ev_ldc2 d_M_digest_31 cn_M_304 ?_
    refine ev_lload_n d_M_digest_34 rfl rfl ?_
    refine ev_lmul d_M_digest_35 ?_
    refine ev_aload_n d_M_digest_36 rfl rfl ?_
    refine ev_callV (as := []) (st := [vJ ((31 : Int64) * a1)]) (k := 11) (i := 0) g_M_reads ml_M_131 rfl rfl (by decide) (by decide) d_M_digest_37 rfl rfl (Nat.le_of_ble_eq_true rfl) rfl (Nat.le_of_ble_eq_true rfl) ?_
    refine Ev.mono K ?_
    rintro _ s2 ⟨z3, rfl, K⟩
    show Ev none (d + 6) m_M_digest 40 [some (vR 11 0), some (vJ a1), none, some (vI a3), none] [vI z3, vJ ((31 : Int64) * a1)] s2 post
    refine ev_i2l d_M_digest_40 ?_
    refine ev_ladd d_M_digest_41 ?_
    refine ev_lstore_n (L' := [some (vR 11 0), some (vJ (((31 : Int64) * a1) + (Int32.toInt64 z3))), none, some (vI a3), none]) d_M_digest_42 rfl (by decide) rfl ?_
    refine ev_aload_n d_M_digest_43 rfl rfl ?_
    refine ev_iconst (v := 0) d_M_digest_44 (by decide) ?_
    refine ev_iconst (v := 1) d_M_digest_45 (by decide) ?_
    refine ev_callV (as := [vI (0 : Int32), vI (1 : Int32)]) (st := []) (k := 11) (i := 0) g_M_findBest ml_M_226 rfl rfl (by decide) (by decide) d_M_digest_46 rfl rfl (Nat.le_of_ble_eq_true rfl) rfl (Nat.le_of_ble_eq_true rfl) ?_
    refine Ev.mono K ?_
    rintro _ s4 ⟨rfl, K⟩
    show Ev none (d + 6) m_M_digest 49 [some (vR 11 0), some (vJ (((31 : Int64) * a1) + (Int32.toInt64 z3))), none, some (vI a3), none] [] s4 post
    refine ev_iconst (v := 0) d_M_digest_49 (by decide) ?_
    refine ev_istore_n (L' := [some (vR 11 0), some (vJ (((31 : Int64) * a1) + (Int32.toInt64 z3))), none, some (vI (0 : Int32)), none]) d_M_digest_50 rfl (by decide) rfl ?_
    exact K
  · replace K := K.2 h1
    refine ev_ldc2 d_M_digest_12 cn_M_304 ?_
    refine ev_lload_n d_M_digest_15 rfl rfl ?_
    refine ev_lmul d_M_digest_16 ?_
    refine ev_aload_n d_M_digest_17 rfl rfl ?_
    refine ev_iload_n d_M_digest_18 rfl rfl ?_
    refine ev_callV (as := [vI a3]) (st := [vJ ((31 : Int64) * a1)]) (k := 11) (i := 0) g_M_count ml_M_306 rfl rfl (by decide) (by decide) d_M_digest_19 rfl rfl (Nat.le_of_ble_eq_true rfl) rfl (Nat.le_of_ble_eq_true rfl) ?_
    refine Ev.mono K ?_
    rintro _ s5 ⟨z6, rfl, K⟩
    show Ev none (d + 6) m_M_digest 22 [some (vR 11 0), some (vJ a1), none, some (vI a3), none] [vI z6, vJ ((31 : Int64) * a1)] s5 post
    refine ev_i2l d_M_digest_22 ?_
    refine ev_ladd d_M_digest_23 ?_
    refine ev_lstore_n (L' := [some (vR 11 0), some (vJ (((31 : Int64) * a1) + (Int32.toInt64 z6))), none, some (vI a3), none]) d_M_digest_24 rfl (by decide) rfl ?_
    refine ev_iinc (v := a3 + (1 : Int32)) (L' := [some (vR 11 0), some (vJ (((31 : Int64) * a1) + (Int32.toInt64 z6))), none, some (vI (a3 + (1 : Int32))), none]) d_M_digest_25 rfl (congrArg (a3 + ·) (by decide)) (by decide) rfl ?_
    refine ev_goto (tgt := 6) d_M_digest_28 rfl ?_
    exact K
set_option maxRecDepth 4000 in
theorem sg_M_digest_51 {d : Nat} {σ : ST} {a1 : Int64} {a3 : Int32} {post : Option AV → ST → Prop} (K : (((σ.1 11 0 8) ≤ a3) → (Ev none (d + 6) m_M_digest 205 [some (vR 11 0), some (vJ a1), none, some (vI (0 : Int32)), none] [] σ post)) ∧ (¬ ((σ.1 11 0 8) ≤ a3) → (Ev none (d + 6) m_M_digest 62 [some (vR 11 0), some (vJ a1), none, some (vI a3), some (vI (0 : Int32))] [] σ post))) : Ev none (d + 6) m_M_digest 51 [some (vR 11 0), some (vJ a1), none, some (vI a3), none] [] σ post := by
  refine ev_iload_n d_M_digest_51 rfl rfl ?_
  refine ev_aload_n d_M_digest_52 rfl rfl ?_
  refine ev_getI gf_M_113 rfl (by decide) d_M_digest_53 ?_
  refine ev_icmp_ge (tgt := 203) d_M_digest_56 rfl (fun h1 => ?_) (fun h1 => ?_)
  · replace K := K.1 h1
    refine ev_iconst (v := 0) d_M_digest_203 (by decide) ?_
    refine ev_istore_n (L' := [some (vR 11 0), some (vJ a1), none, some (vI (0 : Int32)), none]) d_M_digest_204 rfl (by decide) rfl ?_
    exact K
  · replace K := K.2 h1
    refine ev_iconst (v := 0) d_M_digest_59 (by decide) ?_
    refine ev_istore (L' := [some (vR 11 0), some (vJ a1), none, some (vI a3), some (vI (0 : Int32))]) d_M_digest_60 (by decide) rfl ?_
    exact K
set_option maxRecDepth 4000 in
theorem sg_M_digest_62 {d : Nat} {σ : ST} {a1 : Int64} {a3 : Int32} {a4 : Int32} {post : Option AV → ST → Prop} (K : (((3 : Int32) ≤ a4) → (Ev none (d + 6) m_M_digest 92 [some (vR 11 0), some (vJ a1), none, some (vI a3), some (vI (0 : Int32))] [] σ post)) ∧ (¬ ((3 : Int32) ≤ a4) → ((fs_M_chapterOf σ a3 a4) ∧ (Ev none (d + 6) m_M_digest 62 [some (vR 11 0), some (vJ (((31 : Int64) * a1) + (Int32.toInt64 (fn_M_chapterOf σ a3 a4)))), none, some (vI a3), some (vI (a4 + (1 : Int32)))] [] σ post)))) : Ev none (d + 6) m_M_digest 62 [some (vR 11 0), some (vJ a1), none, some (vI a3), some (vI a4)] [] σ post := by
  refine ev_iload d_M_digest_62 rfl ?_
  refine ev_iconst (v := 3) d_M_digest_64 (by decide) ?_
  refine ev_icmp_ge (tgt := 89) d_M_digest_65 rfl (fun h2 => ?_) (fun h2 => ?_)
  · replace K := K.1 h2
    refine ev_iconst (v := 0) d_M_digest_89 (by decide) ?_
    refine ev_istore (L' := [some (vR 11 0), some (vJ a1), none, some (vI a3), some (vI (0 : Int32))]) d_M_digest_90 (by decide) rfl ?_
    exact K
  · replace K := K.2 h2
    refine ev_ldc2 d_M_digest_68 cn_M_304 ?_
    refine ev_lload_n d_M_digest_71 rfl rfl ?_
    refine ev_lmul d_M_digest_72 ?_
    refine ev_aload_n d_M_digest_73 rfl rfl ?_
    refine ev_iload_n d_M_digest_74 rfl rfl ?_
    refine ev_iload d_M_digest_75 rfl ?_
    obtain ⟨q3, K⟩ := K
    refine ev_callV (as := [vI a3, vI a4]) (st := [vJ ((31 : Int64) * a1)]) (k := 11) (i := 0) g_M_chapterOf ml_M_146 rfl rfl (by decide) (by decide) d_M_digest_77 rfl rfl (Nat.le_of_ble_eq_true rfl) rfl (Nat.le_of_ble_eq_true rfl) ?_
    refine f_M_chapterOf q3 ?_
    show Ev none (d + 6) m_M_digest 80 [some (vR 11 0), some (vJ a1), none, some (vI a3), some (vI a4)] [vI (fn_M_chapterOf σ a3 a4), vJ ((31 : Int64) * a1)] σ post
    refine ev_i2l d_M_digest_80 ?_
    refine ev_ladd d_M_digest_81 ?_
    refine ev_lstore_n (L' := [some (vR 11 0), some (vJ (((31 : Int64) * a1) + (Int32.toInt64 (fn_M_chapterOf σ a3 a4)))), none, some (vI a3), some (vI a4)]) d_M_digest_82 rfl (by decide) rfl ?_
    refine ev_iinc (v := a4 + (1 : Int32)) (L' := [some (vR 11 0), some (vJ (((31 : Int64) * a1) + (Int32.toInt64 (fn_M_chapterOf σ a3 a4)))), none, some (vI a3), some (vI (a4 + (1 : Int32)))]) d_M_digest_83 rfl (congrArg (a4 + ·) (by decide)) (by decide) rfl ?_
    refine ev_goto (tgt := 62) d_M_digest_86 rfl ?_
    exact K
set_option maxRecDepth 4000 in
theorem sg_M_digest_92 {d : Nat} {σ : ST} {a1 : Int64} {a3 : Int32} {a4 : Int32} {post : Option AV → ST → Prop} (K : (((6 : Int32) ≤ a4) → (Ev none (d + 6) m_M_digest 123 [some (vR 11 0), some (vJ a1), none, some (vI a3), some (vI (0 : Int32))] [] σ post)) ∧ (¬ ((6 : Int32) ≤ a4) → ((fs_M_timeOf σ a4 a3) ∧ (Ev none (d + 6) m_M_digest 92 [some (vR 11 0), some (vJ (((31 : Int64) * a1) + (Int32.toInt64 (fn_M_timeOf σ a4 a3)))), none, some (vI a3), some (vI (a4 + (1 : Int32)))] [] σ post)))) : Ev none (d + 6) m_M_digest 92 [some (vR 11 0), some (vJ a1), none, some (vI a3), some (vI a4)] [] σ post := by
  refine ev_iload d_M_digest_92 rfl ?_
  refine ev_bipush (v := 6) d_M_digest_94 (by decide) ?_
  refine ev_icmp_ge (tgt := 120) d_M_digest_96 rfl (fun h2 => ?_) (fun h2 => ?_)
  · replace K := K.1 h2
    refine ev_iconst (v := 0) d_M_digest_120 (by decide) ?_
    refine ev_istore (L' := [some (vR 11 0), some (vJ a1), none, some (vI a3), some (vI (0 : Int32))]) d_M_digest_121 (by decide) rfl ?_
    exact K
  · replace K := K.2 h2
    refine ev_ldc2 d_M_digest_99 cn_M_304 ?_
    refine ev_lload_n d_M_digest_102 rfl rfl ?_
    refine ev_lmul d_M_digest_103 ?_
    refine ev_aload_n d_M_digest_104 rfl rfl ?_
    refine ev_iload d_M_digest_105 rfl ?_
    refine ev_iload_n d_M_digest_107 rfl rfl ?_
    obtain ⟨q3, K⟩ := K
    refine ev_callV (as := [vI a4, vI a3]) (st := [vJ ((31 : Int64) * a1)]) (k := 11) (i := 0) g_M_timeOf ml_M_176 rfl rfl (by decide) (by decide) d_M_digest_108 rfl rfl (Nat.le_of_ble_eq_true rfl) rfl (Nat.le_of_ble_eq_true rfl) ?_
    refine f_M_timeOf q3 ?_
    show Ev none (d + 6) m_M_digest 111 [some (vR 11 0), some (vJ a1), none, some (vI a3), some (vI a4)] [vI (fn_M_timeOf σ a4 a3), vJ ((31 : Int64) * a1)] σ post
    refine ev_i2l d_M_digest_111 ?_
    refine ev_ladd d_M_digest_112 ?_
    refine ev_lstore_n (L' := [some (vR 11 0), some (vJ (((31 : Int64) * a1) + (Int32.toInt64 (fn_M_timeOf σ a4 a3)))), none, some (vI a3), some (vI a4)]) d_M_digest_113 rfl (by decide) rfl ?_
    refine ev_iinc (v := a4 + (1 : Int32)) (L' := [some (vR 11 0), some (vJ (((31 : Int64) * a1) + (Int32.toInt64 (fn_M_timeOf σ a4 a3)))), none, some (vI a3), some (vI (a4 + (1 : Int32)))]) d_M_digest_114 rfl (congrArg (a4 + ·) (by decide)) (by decide) rfl ?_
    refine ev_goto (tgt := 92) d_M_digest_117 rfl ?_
    exact K
set_option maxRecDepth 4000 in
theorem sg_M_digest_123 {d : Nat} {σ : ST} {a1 : Int64} {a3 : Int32} {a4 : Int32} {post : Option AV → ST → Prop} (K : (((3 : Int32) ≤ a4) → (Ev none (d + 5) m_M_waitedOf 0 [some (vR 11 0), some (vI (3 : Int32)), some (vI a3), some (vI (1 : Int32)), some (vI (0 : Int32)), none] [] σ (fun r s2 => ∃ z3 : Int32, r = some (vI z3) ∧ (Ev none (d + 5) m_M_waitedOf 0 [some (vR 11 0), some (vI (3 : Int32)), some (vI a3), some (vI (1 : Int32)), some (vI (1 : Int32)), none] [] s2 (fun r s4 => ∃ z5 : Int32, r = some (vI z5) ∧ ((vp_in a3 8) ∧ (Ev none (d + 6) m_M_digest 51 [some (vR 11 0), some (vJ (((31 : Int64) * (((31 : Int64) * (((31 : Int64) * a1) + (Int32.toInt64 z3))) + (Int32.toInt64 z5))) + (Int32.toInt64 (s4.1 57 0 (a3.toNatClampNeg))))), none, some (vI (a3 + (1 : Int32))), none] [] s4 post))))))) ∧ (¬ ((3 : Int32) ≤ a4) → (Ev none (d + 5) m_M_eveningOf 0 [some (vR 11 0), some (vI (3 : Int32)), some (vI a3), some (vI a4)] [] σ (fun r s7 => ∃ z8 : Int32, r = some (vI z8) ∧ (Ev none (d + 6) m_M_digest 123 [some (vR 11 0), some (vJ (((31 : Int64) * a1) + (Int32.toInt64 z8))), none, some (vI a3), some (vI (a4 + (1 : Int32)))] [] s7 post))))) : Ev none (d + 6) m_M_digest 123 [some (vR 11 0), some (vJ a1), none, some (vI a3), some (vI a4)] [] σ post := by
  refine ev_iload d_M_digest_123 rfl ?_
  refine ev_iconst (v := 3) d_M_digest_125 (by decide) ?_
  refine ev_icmp_ge (tgt := 151) d_M_digest_126 rfl (fun h1 => ?_) (fun h1 => ?_)
  · replace K := K.1 h1
    refine ev_ldc2 d_M_digest_151 cn_M_304 ?_
    refine ev_lload_n d_M_digest_154 rfl rfl ?_
    refine ev_lmul d_M_digest_155 ?_
    refine ev_aload_n d_M_digest_156 rfl rfl ?_
    refine ev_iconst (v := 3) d_M_digest_157 (by decide) ?_
    refine ev_iload_n d_M_digest_158 rfl rfl ?_
    refine ev_iconst (v := 1) d_M_digest_159 (by decide) ?_
    refine ev_iconst (v := 0) d_M_digest_160 (by decide) ?_
    refine ev_callV (as := [vI (3 : Int32), vI a3, vI (1 : Int32), vI (0 : Int32)]) (st := [vJ ((31 : Int64) * a1)]) (k := 11) (i := 0) g_M_waitedOf ml_M_204 rfl rfl (by decide) (by decide) d_M_digest_161 rfl rfl (Nat.le_of_ble_eq_true rfl) rfl (Nat.le_of_ble_eq_true rfl) ?_
    refine Ev.mono K ?_
    rintro _ s2 ⟨z3, rfl, K⟩
    show Ev none (d + 6) m_M_digest 164 [some (vR 11 0), some (vJ a1), none, some (vI a3), some (vI a4)] [vI z3, vJ ((31 : Int64) * a1)] s2 post
    refine ev_i2l d_M_digest_164 ?_
    refine ev_ladd d_M_digest_165 ?_
    refine ev_lstore_n (L' := [some (vR 11 0), some (vJ (((31 : Int64) * a1) + (Int32.toInt64 z3))), none, some (vI a3), some (vI a4)]) d_M_digest_166 rfl (by decide) rfl ?_
    refine ev_ldc2 d_M_digest_167 cn_M_304 ?_
    refine ev_lload_n d_M_digest_170 rfl rfl ?_
    refine ev_lmul d_M_digest_171 ?_
    refine ev_aload_n d_M_digest_172 rfl rfl ?_
    refine ev_iconst (v := 3) d_M_digest_173 (by decide) ?_
    refine ev_iload_n d_M_digest_174 rfl rfl ?_
    refine ev_iconst (v := 1) d_M_digest_175 (by decide) ?_
    refine ev_iconst (v := 1) d_M_digest_176 (by decide) ?_
    refine ev_callV (as := [vI (3 : Int32), vI a3, vI (1 : Int32), vI (1 : Int32)]) (st := [vJ ((31 : Int64) * (((31 : Int64) * a1) + (Int32.toInt64 z3)))]) (k := 11) (i := 0) g_M_waitedOf ml_M_204 rfl rfl (by decide) (by decide) d_M_digest_177 rfl rfl (Nat.le_of_ble_eq_true rfl) rfl (Nat.le_of_ble_eq_true rfl) ?_
    refine Ev.mono K ?_
    rintro _ s4 ⟨z5, rfl, K⟩
    show Ev none (d + 6) m_M_digest 180 [some (vR 11 0), some (vJ (((31 : Int64) * a1) + (Int32.toInt64 z3))), none, some (vI a3), some (vI a4)] [vI z5, vJ ((31 : Int64) * (((31 : Int64) * a1) + (Int32.toInt64 z3)))] s4 post
    refine ev_i2l d_M_digest_180 ?_
    refine ev_ladd d_M_digest_181 ?_
    refine ev_lstore_n (L' := [some (vR 11 0), some (vJ (((31 : Int64) * (((31 : Int64) * a1) + (Int32.toInt64 z3))) + (Int32.toInt64 z5))), none, some (vI a3), some (vI a4)]) d_M_digest_182 rfl (by decide) rfl ?_
    refine ev_ldc2 d_M_digest_183 cn_M_304 ?_
    refine ev_lload_n d_M_digest_186 rfl rfl ?_
    refine ev_lmul d_M_digest_187 ?_
    refine ev_aload_n d_M_digest_188 rfl rfl ?_
    refine ev_getR gf_M_55 rfl (by decide) d_M_digest_189 ?_
    refine ev_iload_n d_M_digest_192 rfl rfl ?_
    obtain ⟨q6, K⟩ := K
    refine ev_iald rfl (by decide) (by decide) q6 d_M_digest_193 ?_
    refine ev_i2l d_M_digest_194 ?_
    refine ev_ladd d_M_digest_195 ?_
    refine ev_lstore_n (L' := [some (vR 11 0), some (vJ (((31 : Int64) * (((31 : Int64) * (((31 : Int64) * a1) + (Int32.toInt64 z3))) + (Int32.toInt64 z5))) + (Int32.toInt64 (s4.1 57 0 (a3.toNatClampNeg))))), none, some (vI a3), some (vI a4)]) d_M_digest_196 rfl (by decide) rfl ?_
    refine ev_iinc (v := a3 + (1 : Int32)) (L' := [some (vR 11 0), some (vJ (((31 : Int64) * (((31 : Int64) * (((31 : Int64) * a1) + (Int32.toInt64 z3))) + (Int32.toInt64 z5))) + (Int32.toInt64 (s4.1 57 0 (a3.toNatClampNeg))))), none, some (vI (a3 + (1 : Int32))), some (vI a4)]) d_M_digest_197 rfl (congrArg (a3 + ·) (by decide)) (by decide) rfl ?_
    refine ev_goto (tgt := 51) d_M_digest_200 rfl ?_
    exact Ev.wk (lsub_kp (lsub_kp (lsub_sk (lsub_kp (lsub_sk (lsub_nil)))))) K
  · replace K := K.2 h1
    refine ev_ldc2 d_M_digest_129 cn_M_304 ?_
    refine ev_lload_n d_M_digest_132 rfl rfl ?_
    refine ev_lmul d_M_digest_133 ?_
    refine ev_aload_n d_M_digest_134 rfl rfl ?_
    refine ev_iconst (v := 3) d_M_digest_135 (by decide) ?_
    refine ev_iload_n d_M_digest_136 rfl rfl ?_
    refine ev_iload d_M_digest_137 rfl ?_
    refine ev_callV (as := [vI (3 : Int32), vI a3, vI a4]) (st := [vJ ((31 : Int64) * a1)]) (k := 11) (i := 0) g_M_eveningOf ml_M_201 rfl rfl (by decide) (by decide) d_M_digest_139 rfl rfl (Nat.le_of_ble_eq_true rfl) rfl (Nat.le_of_ble_eq_true rfl) ?_
    refine Ev.mono K ?_
    rintro _ s7 ⟨z8, rfl, K⟩
    show Ev none (d + 6) m_M_digest 142 [some (vR 11 0), some (vJ a1), none, some (vI a3), some (vI a4)] [vI z8, vJ ((31 : Int64) * a1)] s7 post
    refine ev_i2l d_M_digest_142 ?_
    refine ev_ladd d_M_digest_143 ?_
    refine ev_lstore_n (L' := [some (vR 11 0), some (vJ (((31 : Int64) * a1) + (Int32.toInt64 z8))), none, some (vI a3), some (vI a4)]) d_M_digest_144 rfl (by decide) rfl ?_
    refine ev_iinc (v := a4 + (1 : Int32)) (L' := [some (vR 11 0), some (vJ (((31 : Int64) * a1) + (Int32.toInt64 z8))), none, some (vI a3), some (vI (a4 + (1 : Int32)))]) d_M_digest_145 rfl (congrArg (a4 + ·) (by decide)) (by decide) rfl ?_
    refine ev_goto (tgt := 123) d_M_digest_148 rfl ?_
    exact K
set_option maxRecDepth 4000 in
theorem sg_M_digest_205 {d : Nat} {σ : ST} {a1 : Int64} {a3 : Int32} {post : Option AV → ST → Prop} (K : (((3 : Int32) ≤ a3) → (Ev none (d + 5) m_M_findBest 0 [some (vR 11 0), some (vI (4 : Int32)), some (vI (5 : Int32)), none, none, none, none, none] [] σ (fun r s2 => r = none ∧ (Ev none (d + 6) m_M_digest 237 [some (vR 11 0), some (vJ a1), none, some (vI (0 : Int32)), none] [] s2 post)))) ∧ (¬ ((3 : Int32) ≤ a3) → (Ev none (d + 6) m_M_digest 205 [some (vR 11 0), some (vJ (((31 : Int64) * a1) + (Int32.toInt64 (fn_M_bestOf σ a3)))), none, some (vI (a3 + (1 : Int32))), none] [] σ post))) : Ev none (d + 6) m_M_digest 205 [some (vR 11 0), some (vJ a1), none, some (vI a3), none] [] σ post := by
  refine ev_iload_n d_M_digest_205 rfl rfl ?_
  refine ev_iconst (v := 3) d_M_digest_206 (by decide) ?_
  refine ev_icmp_ge (tgt := 229) d_M_digest_207 rfl (fun h1 => ?_) (fun h1 => ?_)
  · replace K := K.1 h1
    refine ev_aload_n d_M_digest_229 rfl rfl ?_
    refine ev_iconst (v := 4) d_M_digest_230 (by decide) ?_
    refine ev_iconst (v := 5) d_M_digest_231 (by decide) ?_
    refine ev_callV (as := [vI (4 : Int32), vI (5 : Int32)]) (st := []) (k := 11) (i := 0) g_M_findBest ml_M_226 rfl rfl (by decide) (by decide) d_M_digest_232 rfl rfl (Nat.le_of_ble_eq_true rfl) rfl (Nat.le_of_ble_eq_true rfl) ?_
    refine Ev.mono K ?_
    rintro _ s2 ⟨rfl, K⟩
    show Ev none (d + 6) m_M_digest 235 [some (vR 11 0), some (vJ a1), none, some (vI a3), none] [] s2 post
    refine ev_iconst (v := 0) d_M_digest_235 (by decide) ?_
    refine ev_istore_n (L' := [some (vR 11 0), some (vJ a1), none, some (vI (0 : Int32)), none]) d_M_digest_236 rfl (by decide) rfl ?_
    exact K
  · replace K := K.2 h1
    refine ev_ldc2 d_M_digest_210 cn_M_304 ?_
    refine ev_lload_n d_M_digest_213 rfl rfl ?_
    refine ev_lmul d_M_digest_214 ?_
    refine ev_aload_n d_M_digest_215 rfl rfl ?_
    refine ev_iload_n d_M_digest_216 rfl rfl ?_
    refine ev_callV (as := [vI a3]) (st := [vJ ((31 : Int64) * a1)]) (k := 11) (i := 0) g_M_bestOf ml_M_229 rfl rfl (by decide) (by decide) d_M_digest_217 rfl rfl (Nat.le_of_ble_eq_true rfl) rfl (Nat.le_of_ble_eq_true rfl) ?_
    refine f_M_bestOf  ?_
    show Ev none (d + 6) m_M_digest 220 [some (vR 11 0), some (vJ a1), none, some (vI a3), none] [vI (fn_M_bestOf σ a3), vJ ((31 : Int64) * a1)] σ post
    refine ev_i2l d_M_digest_220 ?_
    refine ev_ladd d_M_digest_221 ?_
    refine ev_lstore_n (L' := [some (vR 11 0), some (vJ (((31 : Int64) * a1) + (Int32.toInt64 (fn_M_bestOf σ a3)))), none, some (vI a3), none]) d_M_digest_222 rfl (by decide) rfl ?_
    refine ev_iinc (v := a3 + (1 : Int32)) (L' := [some (vR 11 0), some (vJ (((31 : Int64) * a1) + (Int32.toInt64 (fn_M_bestOf σ a3)))), none, some (vI (a3 + (1 : Int32))), none]) d_M_digest_223 rfl (congrArg (a3 + ·) (by decide)) (by decide) rfl ?_
    refine ev_goto (tgt := 205) d_M_digest_226 rfl ?_
    exact K
set_option maxRecDepth 4000 in
theorem sg_M_digest_237 {d : Nat} {σ : ST} {a1 : Int64} {a3 : Int32} {post : Option AV → ST → Prop} (K : (((3 : Int32) ≤ a3) → (Ev none (d + 5) m_M_restsOf 0 [some (vR 11 0), some (vI (0 : Int32)), some (vI (1 : Int32)), some (vI (-1 : Int32)), none, none] [] σ (fun r s2 => ∃ z3 : Int32, r = some (vI z3) ∧ (Ev none (d + 5) m_M_restsOf 0 [some (vR 11 0), some (vI (0 : Int32)), some (vI (1 : Int32)), some (vI (0 : Int32)), none, none] [] s2 (fun r s4 => ∃ z5 : Int32, r = some (vI z5) ∧ (Ev none (d + 5) m_M_gainOf 0 [some (vR 11 0), some (vI (0 : Int32)), some (vI (1 : Int32)), some (vI (2 : Int32)), some (vI (1 : Int32)), none, none, none] [] s4 (fun r s6 => ∃ z7 : Int32, r = some (vI z7) ∧ (Ev none (d + 5) m_M_gainOf 0 [some (vR 11 0), some (vI (1 : Int32)), some (vI (0 : Int32)), some (vI (1 : Int32)), some (vI (2 : Int32)), none, none, none] [] s6 (fun r s8 => ∃ z9 : Int32, r = some (vI z9) ∧ (Ev none (d + 5) m_M_pairsOf 0 [some (vR 11 0), some (vI (63 : Int32)), some (vI (-1 : Int32)), none, none, none] [] s8 (fun r s10 => ∃ z11 : Int32, r = some (vI z11) ∧ (Ev none (d + 6) m_M_digest 340 [some (vR 11 0), some (vJ (((31 : Int64) * (((31 : Int64) * (((31 : Int64) * (((31 : Int64) * (((31 : Int64) * a1) + (Int32.toInt64 z3))) + (Int32.toInt64 z5))) + (Int32.toInt64 z7))) + (Int32.toInt64 z9))) + (Int32.toInt64 z11))), none, some (vI (0 : Int32)), none] [] s10 post)))))))))))) ∧ (¬ ((3 : Int32) ≤ a3) → (Ev none (d + 6) m_M_digest 237 [some (vR 11 0), some (vJ (((31 : Int64) * a1) + (Int32.toInt64 (fn_M_bestOf σ a3)))), none, some (vI (a3 + (1 : Int32))), none] [] σ post))) : Ev none (d + 6) m_M_digest 237 [some (vR 11 0), some (vJ a1), none, some (vI a3), none] [] σ post := by
  refine ev_iload_n d_M_digest_237 rfl rfl ?_
  refine ev_iconst (v := 3) d_M_digest_238 (by decide) ?_
  refine ev_icmp_ge (tgt := 261) d_M_digest_239 rfl (fun h1 => ?_) (fun h1 => ?_)
  · replace K := K.1 h1
    refine ev_ldc2 d_M_digest_261 cn_M_304 ?_
    refine ev_lload_n d_M_digest_264 rfl rfl ?_
    refine ev_lmul d_M_digest_265 ?_
    refine ev_aload_n d_M_digest_266 rfl rfl ?_
    refine ev_iconst (v := 0) d_M_digest_267 (by decide) ?_
    refine ev_iconst (v := 1) d_M_digest_268 (by decide) ?_
    refine ev_iconst (v := -1) d_M_digest_269 (by decide) ?_
    refine ev_callV (as := [vI (0 : Int32), vI (1 : Int32), vI (-1 : Int32)]) (st := [vJ ((31 : Int64) * a1)]) (k := 11) (i := 0) g_M_restsOf ml_M_242 rfl rfl (by decide) (by decide) d_M_digest_270 rfl rfl (Nat.le_of_ble_eq_true rfl) rfl (Nat.le_of_ble_eq_true rfl) ?_
    refine Ev.mono K ?_
    rintro _ s2 ⟨z3, rfl, K⟩
    show Ev none (d + 6) m_M_digest 273 [some (vR 11 0), some (vJ a1), none, some (vI a3), none] [vI z3, vJ ((31 : Int64) * a1)] s2 post
    refine ev_i2l d_M_digest_273 ?_
    refine ev_ladd d_M_digest_274 ?_
    refine ev_lstore_n (L' := [some (vR 11 0), some (vJ (((31 : Int64) * a1) + (Int32.toInt64 z3))), none, some (vI a3), none]) d_M_digest_275 rfl (by decide) rfl ?_
    refine ev_ldc2 d_M_digest_276 cn_M_304 ?_
    refine ev_lload_n d_M_digest_279 rfl rfl ?_
    refine ev_lmul d_M_digest_280 ?_
    refine ev_aload_n d_M_digest_281 rfl rfl ?_
    refine ev_iconst (v := 0) d_M_digest_282 (by decide) ?_
    refine ev_iconst (v := 1) d_M_digest_283 (by decide) ?_
    refine ev_iconst (v := 0) d_M_digest_284 (by decide) ?_
    refine ev_callV (as := [vI (0 : Int32), vI (1 : Int32), vI (0 : Int32)]) (st := [vJ ((31 : Int64) * (((31 : Int64) * a1) + (Int32.toInt64 z3)))]) (k := 11) (i := 0) g_M_restsOf ml_M_242 rfl rfl (by decide) (by decide) d_M_digest_285 rfl rfl (Nat.le_of_ble_eq_true rfl) rfl (Nat.le_of_ble_eq_true rfl) ?_
    refine Ev.mono K ?_
    rintro _ s4 ⟨z5, rfl, K⟩
    show Ev none (d + 6) m_M_digest 288 [some (vR 11 0), some (vJ (((31 : Int64) * a1) + (Int32.toInt64 z3))), none, some (vI a3), none] [vI z5, vJ ((31 : Int64) * (((31 : Int64) * a1) + (Int32.toInt64 z3)))] s4 post
    refine ev_i2l d_M_digest_288 ?_
    refine ev_ladd d_M_digest_289 ?_
    refine ev_lstore_n (L' := [some (vR 11 0), some (vJ (((31 : Int64) * (((31 : Int64) * a1) + (Int32.toInt64 z3))) + (Int32.toInt64 z5))), none, some (vI a3), none]) d_M_digest_290 rfl (by decide) rfl ?_
    refine ev_ldc2 d_M_digest_291 cn_M_304 ?_
    refine ev_lload_n d_M_digest_294 rfl rfl ?_
    refine ev_lmul d_M_digest_295 ?_
    refine ev_aload_n d_M_digest_296 rfl rfl ?_
    refine ev_iconst (v := 0) d_M_digest_297 (by decide) ?_
    refine ev_iconst (v := 1) d_M_digest_298 (by decide) ?_
    refine ev_iconst (v := 2) d_M_digest_299 (by decide) ?_
    refine ev_iconst (v := 1) d_M_digest_300 (by decide) ?_
    refine ev_callV (as := [vI (0 : Int32), vI (1 : Int32), vI (2 : Int32), vI (1 : Int32)]) (st := [vJ ((31 : Int64) * (((31 : Int64) * (((31 : Int64) * a1) + (Int32.toInt64 z3))) + (Int32.toInt64 z5)))]) (k := 11) (i := 0) g_M_gainOf ml_M_235 rfl rfl (by decide) (by decide) d_M_digest_301 rfl rfl (Nat.le_of_ble_eq_true rfl) rfl (Nat.le_of_ble_eq_true rfl) ?_
    refine Ev.mono K ?_
    rintro _ s6 ⟨z7, rfl, K⟩
    show Ev none (d + 6) m_M_digest 304 [some (vR 11 0), some (vJ (((31 : Int64) * (((31 : Int64) * a1) + (Int32.toInt64 z3))) + (Int32.toInt64 z5))), none, some (vI a3), none] [vI z7, vJ ((31 : Int64) * (((31 : Int64) * (((31 : Int64) * a1) + (Int32.toInt64 z3))) + (Int32.toInt64 z5)))] s6 post
    refine ev_i2l d_M_digest_304 ?_
    refine ev_ladd d_M_digest_305 ?_
    refine ev_lstore_n (L' := [some (vR 11 0), some (vJ (((31 : Int64) * (((31 : Int64) * (((31 : Int64) * a1) + (Int32.toInt64 z3))) + (Int32.toInt64 z5))) + (Int32.toInt64 z7))), none, some (vI a3), none]) d_M_digest_306 rfl (by decide) rfl ?_
    refine ev_ldc2 d_M_digest_307 cn_M_304 ?_
    refine ev_lload_n d_M_digest_310 rfl rfl ?_
    refine ev_lmul d_M_digest_311 ?_
    refine ev_aload_n d_M_digest_312 rfl rfl ?_
    refine ev_iconst (v := 1) d_M_digest_313 (by decide) ?_
    refine ev_iconst (v := 0) d_M_digest_314 (by decide) ?_
    refine ev_iconst (v := 1) d_M_digest_315 (by decide) ?_
    refine ev_iconst (v := 2) d_M_digest_316 (by decide) ?_
    refine ev_callV (as := [vI (1 : Int32), vI (0 : Int32), vI (1 : Int32), vI (2 : Int32)]) (st := [vJ ((31 : Int64) * (((31 : Int64) * (((31 : Int64) * (((31 : Int64) * a1) + (Int32.toInt64 z3))) + (Int32.toInt64 z5))) + (Int32.toInt64 z7)))]) (k := 11) (i := 0) g_M_gainOf ml_M_235 rfl rfl (by decide) (by decide) d_M_digest_317 rfl rfl (Nat.le_of_ble_eq_true rfl) rfl (Nat.le_of_ble_eq_true rfl) ?_
    refine Ev.mono K ?_
    rintro _ s8 ⟨z9, rfl, K⟩
    show Ev none (d + 6) m_M_digest 320 [some (vR 11 0), some (vJ (((31 : Int64) * (((31 : Int64) * (((31 : Int64) * a1) + (Int32.toInt64 z3))) + (Int32.toInt64 z5))) + (Int32.toInt64 z7))), none, some (vI a3), none] [vI z9, vJ ((31 : Int64) * (((31 : Int64) * (((31 : Int64) * (((31 : Int64) * a1) + (Int32.toInt64 z3))) + (Int32.toInt64 z5))) + (Int32.toInt64 z7)))] s8 post
    refine ev_i2l d_M_digest_320 ?_
    refine ev_ladd d_M_digest_321 ?_
    refine ev_lstore_n (L' := [some (vR 11 0), some (vJ (((31 : Int64) * (((31 : Int64) * (((31 : Int64) * (((31 : Int64) * a1) + (Int32.toInt64 z3))) + (Int32.toInt64 z5))) + (Int32.toInt64 z7))) + (Int32.toInt64 z9))), none, some (vI a3), none]) d_M_digest_322 rfl (by decide) rfl ?_
    refine ev_ldc2 d_M_digest_323 cn_M_304 ?_
    refine ev_lload_n d_M_digest_326 rfl rfl ?_
    refine ev_lmul d_M_digest_327 ?_
    refine ev_aload_n d_M_digest_328 rfl rfl ?_
    refine ev_bipush (v := 63) d_M_digest_329 (by decide) ?_
    refine ev_iconst (v := -1) d_M_digest_331 (by decide) ?_
    refine ev_callV (as := [vI (63 : Int32), vI (-1 : Int32)]) (st := [vJ ((31 : Int64) * (((31 : Int64) * (((31 : Int64) * (((31 : Int64) * (((31 : Int64) * a1) + (Int32.toInt64 z3))) + (Int32.toInt64 z5))) + (Int32.toInt64 z7))) + (Int32.toInt64 z9)))]) (k := 11) (i := 0) g_M_pairsOf ml_M_258 rfl rfl (by decide) (by decide) d_M_digest_332 rfl rfl (Nat.le_of_ble_eq_true rfl) rfl (Nat.le_of_ble_eq_true rfl) ?_
    refine Ev.mono K ?_
    rintro _ s10 ⟨z11, rfl, K⟩
    show Ev none (d + 6) m_M_digest 335 [some (vR 11 0), some (vJ (((31 : Int64) * (((31 : Int64) * (((31 : Int64) * (((31 : Int64) * a1) + (Int32.toInt64 z3))) + (Int32.toInt64 z5))) + (Int32.toInt64 z7))) + (Int32.toInt64 z9))), none, some (vI a3), none] [vI z11, vJ ((31 : Int64) * (((31 : Int64) * (((31 : Int64) * (((31 : Int64) * (((31 : Int64) * a1) + (Int32.toInt64 z3))) + (Int32.toInt64 z5))) + (Int32.toInt64 z7))) + (Int32.toInt64 z9)))] s10 post
    refine ev_i2l d_M_digest_335 ?_
    refine ev_ladd d_M_digest_336 ?_
    refine ev_lstore_n (L' := [some (vR 11 0), some (vJ (((31 : Int64) * (((31 : Int64) * (((31 : Int64) * (((31 : Int64) * (((31 : Int64) * a1) + (Int32.toInt64 z3))) + (Int32.toInt64 z5))) + (Int32.toInt64 z7))) + (Int32.toInt64 z9))) + (Int32.toInt64 z11))), none, some (vI a3), none]) d_M_digest_337 rfl (by decide) rfl ?_
    refine ev_iconst (v := 0) d_M_digest_338 (by decide) ?_
    refine ev_istore_n (L' := [some (vR 11 0), some (vJ (((31 : Int64) * (((31 : Int64) * (((31 : Int64) * (((31 : Int64) * (((31 : Int64) * a1) + (Int32.toInt64 z3))) + (Int32.toInt64 z5))) + (Int32.toInt64 z7))) + (Int32.toInt64 z9))) + (Int32.toInt64 z11))), none, some (vI (0 : Int32)), none]) d_M_digest_339 rfl (by decide) rfl ?_
    exact K
  · replace K := K.2 h1
    refine ev_ldc2 d_M_digest_242 cn_M_304 ?_
    refine ev_lload_n d_M_digest_245 rfl rfl ?_
    refine ev_lmul d_M_digest_246 ?_
    refine ev_aload_n d_M_digest_247 rfl rfl ?_
    refine ev_iload_n d_M_digest_248 rfl rfl ?_
    refine ev_callV (as := [vI a3]) (st := [vJ ((31 : Int64) * a1)]) (k := 11) (i := 0) g_M_bestOf ml_M_229 rfl rfl (by decide) (by decide) d_M_digest_249 rfl rfl (Nat.le_of_ble_eq_true rfl) rfl (Nat.le_of_ble_eq_true rfl) ?_
    refine f_M_bestOf  ?_
    show Ev none (d + 6) m_M_digest 252 [some (vR 11 0), some (vJ a1), none, some (vI a3), none] [vI (fn_M_bestOf σ a3), vJ ((31 : Int64) * a1)] σ post
    refine ev_i2l d_M_digest_252 ?_
    refine ev_ladd d_M_digest_253 ?_
    refine ev_lstore_n (L' := [some (vR 11 0), some (vJ (((31 : Int64) * a1) + (Int32.toInt64 (fn_M_bestOf σ a3)))), none, some (vI a3), none]) d_M_digest_254 rfl (by decide) rfl ?_
    refine ev_iinc (v := a3 + (1 : Int32)) (L' := [some (vR 11 0), some (vJ (((31 : Int64) * a1) + (Int32.toInt64 (fn_M_bestOf σ a3)))), none, some (vI (a3 + (1 : Int32))), none]) d_M_digest_255 rfl (congrArg (a3 + ·) (by decide)) (by decide) rfl ?_
    refine ev_goto (tgt := 237) d_M_digest_258 rfl ?_
    exact K
set_option maxRecDepth 4000 in
theorem sg_M_digest_340 {d : Nat} {σ : ST} {a1 : Int64} {a3 : Int32} {post : Option AV → ST → Prop} (K : (((6 : Int32) ≤ a3) → (Ev none (d + 5) m_M_unlikeNow 0 [some (vR 11 0), none, none, none] [] σ (fun r s2 => ∃ z3 : Int32, r = some (vI z3) ∧ (Ev none (d + 6) m_M_digest 411 [some (vR 11 0), some (vJ (((31 : Int64) * a1) + (Int32.toInt64 z3))), none, some (vI (0 : Int32)), none] [] s2 post)))) ∧ (¬ ((6 : Int32) ≤ a3) → (Ev none (d + 5) m_M_pairsOf 0 [some (vR 11 0), some (vI (63 : Int32)), some (vI a3), none, none, none] [] σ (fun r s4 => ∃ z5 : Int32, r = some (vI z5) ∧ (Ev none (d + 6) m_M_digest 364 [some (vR 11 0), some (vJ (((31 : Int64) * a1) + (Int32.toInt64 z5))), none, some (vI a3), some (vI (0 : Int32))] [] s4 post))))) : Ev none (d + 6) m_M_digest 340 [some (vR 11 0), some (vJ a1), none, some (vI a3), none] [] σ post := by
  refine ev_iload_n d_M_digest_340 rfl rfl ?_
  refine ev_bipush (v := 6) d_M_digest_341 (by decide) ?_
  refine ev_icmp_ge (tgt := 397) d_M_digest_343 rfl (fun h1 => ?_) (fun h1 => ?_)
  · replace K := K.1 h1
    refine ev_ldc2 d_M_digest_397 cn_M_304 ?_
    refine ev_lload_n d_M_digest_400 rfl rfl ?_
    refine ev_lmul d_M_digest_401 ?_
    refine ev_aload_n d_M_digest_402 rfl rfl ?_
    refine ev_callV (as := []) (st := [vJ ((31 : Int64) * a1)]) (k := 11) (i := 0) g_M_unlikeNow ml_M_267 rfl rfl (by decide) (by decide) d_M_digest_403 rfl rfl (Nat.le_of_ble_eq_true rfl) rfl (Nat.le_of_ble_eq_true rfl) ?_
    refine Ev.mono K ?_
    rintro _ s2 ⟨z3, rfl, K⟩
    show Ev none (d + 6) m_M_digest 406 [some (vR 11 0), some (vJ a1), none, some (vI a3), none] [vI z3, vJ ((31 : Int64) * a1)] s2 post
    refine ev_i2l d_M_digest_406 ?_
    refine ev_ladd d_M_digest_407 ?_
    refine ev_lstore_n (L' := [some (vR 11 0), some (vJ (((31 : Int64) * a1) + (Int32.toInt64 z3))), none, some (vI a3), none]) d_M_digest_408 rfl (by decide) rfl ?_
    refine ev_iconst (v := 0) d_M_digest_409 (by decide) ?_
    refine ev_istore_n (L' := [some (vR 11 0), some (vJ (((31 : Int64) * a1) + (Int32.toInt64 z3))), none, some (vI (0 : Int32)), none]) d_M_digest_410 rfl (by decide) rfl ?_
    exact K
  · replace K := K.2 h1
    refine ev_ldc2 d_M_digest_346 cn_M_304 ?_
    refine ev_lload_n d_M_digest_349 rfl rfl ?_
    refine ev_lmul d_M_digest_350 ?_
    refine ev_aload_n d_M_digest_351 rfl rfl ?_
    refine ev_bipush (v := 63) d_M_digest_352 (by decide) ?_
    refine ev_iload_n d_M_digest_354 rfl rfl ?_
    refine ev_callV (as := [vI (63 : Int32), vI a3]) (st := [vJ ((31 : Int64) * a1)]) (k := 11) (i := 0) g_M_pairsOf ml_M_258 rfl rfl (by decide) (by decide) d_M_digest_355 rfl rfl (Nat.le_of_ble_eq_true rfl) rfl (Nat.le_of_ble_eq_true rfl) ?_
    refine Ev.mono K ?_
    rintro _ s4 ⟨z5, rfl, K⟩
    show Ev none (d + 6) m_M_digest 358 [some (vR 11 0), some (vJ a1), none, some (vI a3), none] [vI z5, vJ ((31 : Int64) * a1)] s4 post
    refine ev_i2l d_M_digest_358 ?_
    refine ev_ladd d_M_digest_359 ?_
    refine ev_lstore_n (L' := [some (vR 11 0), some (vJ (((31 : Int64) * a1) + (Int32.toInt64 z5))), none, some (vI a3), none]) d_M_digest_360 rfl (by decide) rfl ?_
    refine ev_iconst (v := 0) d_M_digest_361 (by decide) ?_
    refine ev_istore (L' := [some (vR 11 0), some (vJ (((31 : Int64) * a1) + (Int32.toInt64 z5))), none, some (vI a3), some (vI (0 : Int32))]) d_M_digest_362 (by decide) rfl ?_
    exact K
set_option maxRecDepth 4000 in
theorem sg_M_digest_364 {d : Nat} {σ : ST} {a1 : Int64} {a3 : Int32} {a4 : Int32} {post : Option AV → ST → Prop} (K : (((3 : Int32) ≤ a4) → (Ev none (d + 6) m_M_digest 340 [some (vR 11 0), some (vJ a1), none, some (vI (a3 + (1 : Int32))), none] [] σ post)) ∧ (¬ ((3 : Int32) ≤ a4) → (Ev none (d + 5) m_M_pacesOf 0 [some (vR 11 0), some (vI a3), some (vI a4), none, none, none, none, none, none, none, none] [] σ (fun r s2 => ∃ z3 : Int32, r = some (vI z3) ∧ (Ev none (d + 6) m_M_digest 364 [some (vR 11 0), some (vJ (((31 : Int64) * a1) + (Int32.toInt64 z3))), none, some (vI a3), some (vI (a4 + (1 : Int32)))] [] s2 post))))) : Ev none (d + 6) m_M_digest 364 [some (vR 11 0), some (vJ a1), none, some (vI a3), some (vI a4)] [] σ post := by
  refine ev_iload d_M_digest_364 rfl ?_
  refine ev_iconst (v := 3) d_M_digest_366 (by decide) ?_
  refine ev_icmp_ge (tgt := 391) d_M_digest_367 rfl (fun h1 => ?_) (fun h1 => ?_)
  · replace K := K.1 h1
    refine ev_iinc (v := a3 + (1 : Int32)) (L' := [some (vR 11 0), some (vJ a1), none, some (vI (a3 + (1 : Int32))), some (vI a4)]) d_M_digest_391 rfl (congrArg (a3 + ·) (by decide)) (by decide) rfl ?_
    refine ev_goto (tgt := 340) d_M_digest_394 rfl ?_
    exact Ev.wk (lsub_kp (lsub_kp (lsub_sk (lsub_kp (lsub_sk (lsub_nil)))))) K
  · replace K := K.2 h1
    refine ev_ldc2 d_M_digest_370 cn_M_304 ?_
    refine ev_lload_n d_M_digest_373 rfl rfl ?_
    refine ev_lmul d_M_digest_374 ?_
    refine ev_aload_n d_M_digest_375 rfl rfl ?_
    refine ev_iload_n d_M_digest_376 rfl rfl ?_
    refine ev_iload d_M_digest_377 rfl ?_
    refine ev_callV (as := [vI a3, vI a4]) (st := [vJ ((31 : Int64) * a1)]) (k := 11) (i := 0) g_M_pacesOf ml_M_264 rfl rfl (by decide) (by decide) d_M_digest_379 rfl rfl (Nat.le_of_ble_eq_true rfl) rfl (Nat.le_of_ble_eq_true rfl) ?_
    refine Ev.mono K ?_
    rintro _ s2 ⟨z3, rfl, K⟩
    show Ev none (d + 6) m_M_digest 382 [some (vR 11 0), some (vJ a1), none, some (vI a3), some (vI a4)] [vI z3, vJ ((31 : Int64) * a1)] s2 post
    refine ev_i2l d_M_digest_382 ?_
    refine ev_ladd d_M_digest_383 ?_
    refine ev_lstore_n (L' := [some (vR 11 0), some (vJ (((31 : Int64) * a1) + (Int32.toInt64 z3))), none, some (vI a3), some (vI a4)]) d_M_digest_384 rfl (by decide) rfl ?_
    refine ev_iinc (v := a4 + (1 : Int32)) (L' := [some (vR 11 0), some (vJ (((31 : Int64) * a1) + (Int32.toInt64 z3))), none, some (vI a3), some (vI (a4 + (1 : Int32)))]) d_M_digest_385 rfl (congrArg (a4 + ·) (by decide)) (by decide) rfl ?_
    refine ev_goto (tgt := 364) d_M_digest_388 rfl ?_
    exact K
set_option maxRecDepth 4000 in
theorem sg_M_digest_411 {d : Nat} {σ : ST} {a1 : Int64} {a3 : Int32} {post : Option AV → ST → Prop} (K : (((2 : Int32) ≤ a3) → (Ev none (d + 6) m_M_digest 440 [some (vR 11 0), some (vJ a1), none, some (vI (0 : Int32)), none] [] σ post)) ∧ (¬ ((2 : Int32) ≤ a3) → (Ev none (d + 5) m_M_doneOf 0 [some (vR 11 0), some (vI (7 : Int32)), some (vI (60 : Int32)), some (vI a3), none, none, none] [] σ (fun r s2 => ∃ z3 : Int64, r = some (vJ z3) ∧ (Ev none (d + 6) m_M_digest 411 [some (vR 11 0), some (vJ (((31 : Int64) * a1) + z3)), none, some (vI (a3 + (1 : Int32))), none] [] s2 post))))) : Ev none (d + 6) m_M_digest 411 [some (vR 11 0), some (vJ a1), none, some (vI a3), none] [] σ post := by
  refine ev_iload_n d_M_digest_411 rfl rfl ?_
  refine ev_iconst (v := 2) d_M_digest_412 (by decide) ?_
  refine ev_icmp_ge (tgt := 438) d_M_digest_413 rfl (fun h1 => ?_) (fun h1 => ?_)
  · replace K := K.1 h1
    refine ev_iconst (v := 0) d_M_digest_438 (by decide) ?_
    refine ev_istore_n (L' := [some (vR 11 0), some (vJ a1), none, some (vI (0 : Int32)), none]) d_M_digest_439 rfl (by decide) rfl ?_
    exact K
  · replace K := K.2 h1
    refine ev_ldc2 d_M_digest_416 cn_M_304 ?_
    refine ev_lload_n d_M_digest_419 rfl rfl ?_
    refine ev_lmul d_M_digest_420 ?_
    refine ev_aload_n d_M_digest_421 rfl rfl ?_
    refine ev_bipush (v := 7) d_M_digest_422 (by decide) ?_
    refine ev_bipush (v := 60) d_M_digest_424 (by decide) ?_
    refine ev_iload_n d_M_digest_426 rfl rfl ?_
    refine ev_callV (as := [vI (7 : Int32), vI (60 : Int32), vI a3]) (st := [vJ ((31 : Int64) * a1)]) (k := 11) (i := 0) g_M_doneOf ml_M_295 rfl rfl (by decide) (by decide) d_M_digest_427 rfl rfl (Nat.le_of_ble_eq_true rfl) rfl (Nat.le_of_ble_eq_true rfl) ?_
    refine Ev.mono K ?_
    rintro _ s2 ⟨z3, rfl, K⟩
    show Ev none (d + 6) m_M_digest 430 [some (vR 11 0), some (vJ a1), none, some (vI a3), none] [vJ z3, vJ ((31 : Int64) * a1)] s2 post
    refine ev_ladd d_M_digest_430 ?_
    refine ev_lstore_n (L' := [some (vR 11 0), some (vJ (((31 : Int64) * a1) + z3)), none, some (vI a3), none]) d_M_digest_431 rfl (by decide) rfl ?_
    refine ev_iinc (v := a3 + (1 : Int32)) (L' := [some (vR 11 0), some (vJ (((31 : Int64) * a1) + z3)), none, some (vI (a3 + (1 : Int32))), none]) d_M_digest_432 rfl (congrArg (a3 + ·) (by decide)) (by decide) rfl ?_
    refine ev_goto (tgt := 411) d_M_digest_435 rfl ?_
    exact K
set_option maxRecDepth 4000 in
theorem sg_M_digest_440 {d : Nat} {σ : ST} {a1 : Int64} {a3 : Int32} {post : Option AV → ST → Prop} (K : (((2 : Int32) ≤ a3) → (post (some (vJ a1)) σ)) ∧ (¬ ((2 : Int32) ≤ a3) → (Ev none (d + 5) m_M_meanOf 0 [some (vR 11 0), some (vI (7 : Int32)), some (vI a3), none, none, none, none] [] σ (fun r s2 => ∃ z3 : Int64, r = some (vJ z3) ∧ (Ev none (d + 6) m_M_digest 440 [some (vR 11 0), some (vJ (((31 : Int64) * a1) + z3)), none, some (vI (a3 + (1 : Int32))), none] [] s2 post))))) : Ev none (d + 6) m_M_digest 440 [some (vR 11 0), some (vJ a1), none, some (vI a3), none] [] σ post := by
  refine ev_iload_n d_M_digest_440 rfl rfl ?_
  refine ev_iconst (v := 2) d_M_digest_441 (by decide) ?_
  refine ev_icmp_ge (tgt := 465) d_M_digest_442 rfl (fun h1 => ?_) (fun h1 => ?_)
  · replace K := K.1 h1
    refine ev_lload_n d_M_digest_465 rfl rfl ?_
    exact ev_ret (r := some (vJ a1)) d_M_digest_466 rfl rfl K
  · replace K := K.2 h1
    refine ev_ldc2 d_M_digest_445 cn_M_304 ?_
    refine ev_lload_n d_M_digest_448 rfl rfl ?_
    refine ev_lmul d_M_digest_449 ?_
    refine ev_aload_n d_M_digest_450 rfl rfl ?_
    refine ev_bipush (v := 7) d_M_digest_451 (by decide) ?_
    refine ev_iload_n d_M_digest_453 rfl rfl ?_
    refine ev_callV (as := [vI (7 : Int32), vI a3]) (st := [vJ ((31 : Int64) * a1)]) (k := 11) (i := 0) g_M_meanOf ml_M_299 rfl rfl (by decide) (by decide) d_M_digest_454 rfl rfl (Nat.le_of_ble_eq_true rfl) rfl (Nat.le_of_ble_eq_true rfl) ?_
    refine Ev.mono K ?_
    rintro _ s2 ⟨z3, rfl, K⟩
    show Ev none (d + 6) m_M_digest 457 [some (vR 11 0), some (vJ a1), none, some (vI a3), none] [vJ z3, vJ ((31 : Int64) * a1)] s2 post
    refine ev_ladd d_M_digest_457 ?_
    refine ev_lstore_n (L' := [some (vR 11 0), some (vJ (((31 : Int64) * a1) + z3)), none, some (vI a3), none]) d_M_digest_458 rfl (by decide) rfl ?_
    refine ev_iinc (v := a3 + (1 : Int32)) (L' := [some (vR 11 0), some (vJ (((31 : Int64) * a1) + z3)), none, some (vI (a3 + (1 : Int32))), none]) d_M_digest_459 rfl (congrArg (a3 + ·) (by decide)) (by decide) rfl ?_
    refine ev_goto (tgt := 440) d_M_digest_462 rfl ?_
    exact K
set_option maxRecDepth 4000 in
theorem sg_M_done_0 {d : Nat} {σ : ST} {a1 : Int32} {a2 : Int32} {a3 : Int32} {post : Option AV → ST → Prop} (K : Ev none (d + 5) m_M_reads 0 [some (vR 11 0), none] [] σ (fun r s1 => ∃ z2 : Int32, r = some (vI z2) ∧ ((((fp_M_isSome s1 a1) ∧ ((fp_M_in s1 (Int32.toInt64 a2) (0 : Int64) (9999 : Int64)) ∧ (fp_M_isTwo s1 a3))) → (Ev none (d + 5) m_M_ones 0 [some (vI a1), none, none] [] s1 (fun r s5 => ∃ z6 : Int32, r = some (vI z6) ∧ (((z6 ≤ (3 : Int32)) → (Ev none (d + 5) m_M_doneOf 0 [some (vR 11 0), some (vI a1), some (vI a2), some (vI a3), none, none, none] [] s5 (fun r s8 => ∃ z9 : Int64, r = some (vJ z9) ∧ (post (some (vJ z9)) s8)))) ∧ (¬ (z6 ≤ (3 : Int32)) → (post (some (vJ (fn_M_no s5 (-4 : Int32)))) s5)))))) ∧ (¬ ((fp_M_isSome s1 a1) ∧ ((fp_M_in s1 (Int32.toInt64 a2) (0 : Int64) (9999 : Int64)) ∧ (fp_M_isTwo s1 a3))) → (post (some (vJ (fn_M_no s1 (-2 : Int32)))) s1))))) : Ev none (d + 6) m_M_done 0 [some (vR 11 0), some (vI a1), some (vI a2), some (vI a3)] [] σ post := by
  refine ev_aload_n d_M_done_0 rfl rfl ?_
  refine ev_callV (as := []) (st := []) (k := 11) (i := 0) g_M_reads ml_M_131 rfl rfl (by decide) (by decide) d_M_done_1 rfl rfl (Nat.le_of_ble_eq_true rfl) rfl (Nat.le_of_ble_eq_true rfl) ?_
  refine Ev.mono K ?_
  rintro _ s1 ⟨z2, rfl, K⟩
  show Ev none (d + 6) m_M_done 4 [some (vR 11 0), some (vI a1), some (vI a2), some (vI a3)] [vI z2] s1 post
  refine ev_pop d_M_done_4 rfl ?_
  refine ev_iload_n d_M_done_5 rfl rfl ?_
  refine ev_callS (as := [vI a1]) (st := []) g_M_isSome ml_M_198 d_M_done_6 rfl rfl (Nat.le_of_ble_eq_true rfl) rfl (Nat.le_of_ble_eq_true rfl) ?_
  refine f_M_isSome  ?_
  show Ev none (d + 6) m_M_done 9 [some (vR 11 0), some (vI a1), some (vI a2), some (vI a3)] [vI (bi (fp_M_isSome s1 a1))] s1 post
  obtain ⟨w3, e4⟩ : ∃ w : Int32, w = bi ((fp_M_isSome s1 a1) ∧ ((fp_M_in s1 (Int32.toInt64 a2) (0 : Int64) (9999 : Int64)) ∧ (fp_M_isTwo s1 a3))) := ⟨_, rfl⟩
  have J1 : w3 = 1 → Ev none (d + 6) m_M_done 37 [some (vR 11 0), some (vI a1), some (vI a2), some (vI a3)] [] s1 post := by
    intro e41
    replace K := K.1 (bi_1.mp ((e4.symm).trans e41))
    refine ev_iload_n d_M_done_37 rfl rfl ?_
    refine ev_callS (as := [vI a1]) (st := []) g_M_ones ml_M_246 d_M_done_38 rfl rfl (Nat.le_of_ble_eq_true rfl) rfl (Nat.le_of_ble_eq_true rfl) ?_
    refine Ev.mono K ?_
    rintro _ s5 ⟨z6, rfl, K⟩
    show Ev none (d + 6) m_M_done 41 [some (vR 11 0), some (vI a1), some (vI a2), some (vI a3)] [vI z6] s5 post
    refine ev_iconst (v := 3) d_M_done_41 (by decide) ?_
    refine ev_icmp_le (tgt := 53) d_M_done_42 rfl (fun h7 => ?_) (fun h7 => ?_)
    · replace K := K.1 h7
      refine ev_aload_n d_M_done_53 rfl rfl ?_
      refine ev_iload_n d_M_done_54 rfl rfl ?_
      refine ev_iload_n d_M_done_55 rfl rfl ?_
      refine ev_iload_n d_M_done_56 rfl rfl ?_
      refine ev_callV (as := [vI a1, vI a2, vI a3]) (st := []) (k := 11) (i := 0) g_M_doneOf ml_M_295 rfl rfl (by decide) (by decide) d_M_done_57 rfl rfl (Nat.le_of_ble_eq_true rfl) rfl (Nat.le_of_ble_eq_true rfl) ?_
      refine Ev.mono K ?_
      rintro _ s8 ⟨z9, rfl, K⟩
      show Ev none (d + 6) m_M_done 60 [some (vR 11 0), some (vI a1), some (vI a2), some (vI a3)] [vJ z9] s8 post
      exact ev_ret (r := some (vJ z9)) d_M_done_60 rfl rfl K
    · replace K := K.2 h7
      refine ev_bipush (v := -4) d_M_done_45 (by decide) ?_
      refine ev_callS (as := [vI (-4 : Int32)]) (st := []) g_M_no ml_M_291 d_M_done_47 rfl rfl (Nat.le_of_ble_eq_true rfl) rfl (Nat.le_of_ble_eq_true rfl) ?_
      refine f_M_no  ?_
      show Ev none (d + 6) m_M_done 50 [some (vR 11 0), some (vI a1), some (vI a2), some (vI a3)] [vJ (fn_M_no s5 (-4 : Int32))] s5 post
      refine ev_goto (tgt := 60) d_M_done_50 rfl ?_
      exact ev_ret (r := some (vJ (fn_M_no s5 (-4 : Int32)))) d_M_done_60 rfl rfl K
  have J0 : w3 = 0 → Ev none (d + 6) m_M_done 31 [some (vR 11 0), some (vI a1), some (vI a2), some (vI a3)] [] s1 post := by
    intro e40
    replace K := K.2 (bi_0.mp ((e4.symm).trans e40))
    refine ev_bipush (v := -2) d_M_done_31 (by decide) ?_
    refine ev_callS (as := [vI (-2 : Int32)]) (st := []) g_M_no ml_M_291 d_M_done_33 rfl rfl (Nat.le_of_ble_eq_true rfl) rfl (Nat.le_of_ble_eq_true rfl) ?_
    refine f_M_no  ?_
    show Ev none (d + 6) m_M_done 36 [some (vR 11 0), some (vI a1), some (vI a2), some (vI a3)] [vJ (fn_M_no s1 (-2 : Int32))] s1 post
    exact ev_ret (r := some (vJ (fn_M_no s1 (-2 : Int32)))) d_M_done_36 rfl rfl K
  clear K
  refine ev_ifb_eq (tgt := 31) d_M_done_9 rfl (fun h10 => ?_) (fun h10 => ?_)
  · rw [b3f h10] at e4
    exact J0 e4
  · rw [b3t h10] at e4
    refine ev_iload_n d_M_done_12 rfl rfl ?_
    refine ev_i2l d_M_done_13 ?_
    refine ev_lconst (v := 0) d_M_done_14 (by decide) ?_
    refine ev_ldc2 d_M_done_15 cn_M_289 ?_
    refine ev_callS (as := [vJ (Int32.toInt64 a2), vJ (0 : Int64), vJ (9999 : Int64)]) (st := []) g_M_in ml_M_76 d_M_done_18 rfl rfl (Nat.le_of_ble_eq_true rfl) rfl (Nat.le_of_ble_eq_true rfl) ?_
    refine f_M_in  ?_
    show Ev none (d + 6) m_M_done 21 [some (vR 11 0), some (vI a1), some (vI a2), some (vI a3)] [vI (bi (fp_M_in s1 (Int32.toInt64 a2) (0 : Int64) (9999 : Int64)))] s1 post
    refine ev_ifb_eq (tgt := 31) d_M_done_21 rfl (fun h11 => ?_) (fun h11 => ?_)
    · rw [b3f h11] at e4
      exact J0 e4
    · rw [b3t h11] at e4
      refine ev_iload_n d_M_done_24 rfl rfl ?_
      refine ev_callS (as := [vI a3]) (st := []) g_M_isTwo ml_M_160 d_M_done_25 rfl rfl (Nat.le_of_ble_eq_true rfl) rfl (Nat.le_of_ble_eq_true rfl) ?_
      refine f_M_isTwo  ?_
      show Ev none (d + 6) m_M_done 28 [some (vR 11 0), some (vI a1), some (vI a2), some (vI a3)] [vI (bi (fp_M_isTwo s1 a3))] s1 post
      refine ev_ifb_ne (tgt := 37) d_M_done_28 rfl (fun h12 => ?_) (fun h12 => ?_)
      · rw [bi_t h12] at e4
        exact J1 e4
      · rw [bi_f h12] at e4
        exact J0 e4
set_option maxRecDepth 4000 in
theorem sg_M_evening_0 {d : Nat} {σ : ST} {a1 : Int32} {a2 : Int32} {a3 : Int32} {post : Option AV → ST → Prop} (K : ((fp_M_isSome σ a1) → (Ev none (d + 5) m_M_isChapter 0 [some (vR 11 0), some (vI a2)] [] σ (fun r s2 => ∃ z3 : Int32, r = some (vI z3) ∧ ((((z3 = 0) ∨ (¬ (fp_M_in s2 (Int32.toInt64 a3) (0 : Int64) (2 : Int64)))) → (post (some (vI (-2 : Int32))) s2)) ∧ (¬ ((z3 = 0) ∨ (¬ (fp_M_in s2 (Int32.toInt64 a3) (0 : Int64) (2 : Int64)))) → (Ev none (d + 5) m_M_eveningOf 0 [some (vR 11 0), some (vI a1), some (vI a2), some (vI a3)] [] s2 (fun r s6 => ∃ z7 : Int32, r = some (vI z7) ∧ (post (some (vI z7)) s6)))))))) ∧ (¬ (fp_M_isSome σ a1) → (post (some (vI (-2 : Int32))) σ))) : Ev none (d + 6) m_M_evening 0 [some (vR 11 0), some (vI a1), some (vI a2), some (vI a3)] [] σ post := by
  refine ev_iload_n d_M_evening_0 rfl rfl ?_
  refine ev_callS (as := [vI a1]) (st := []) g_M_isSome ml_M_198 d_M_evening_1 rfl rfl (Nat.le_of_ble_eq_true rfl) rfl (Nat.le_of_ble_eq_true rfl) ?_
  refine f_M_isSome  ?_
  show Ev none (d + 6) m_M_evening 4 [some (vR 11 0), some (vI a1), some (vI a2), some (vI a3)] [vI (bi (fp_M_isSome σ a1))] σ post
  refine ev_ifb_eq (tgt := 37) d_M_evening_4 rfl (fun h1 => ?_) (fun h1 => ?_)
  · replace K := K.2 h1
    refine ev_bipush (v := -2) d_M_evening_37 (by decide) ?_
    exact ev_ret (r := some (vI (-2 : Int32))) d_M_evening_39 rfl rfl K
  · replace K := K.1 h1
    refine ev_aload_n d_M_evening_7 rfl rfl ?_
    refine ev_iload_n d_M_evening_8 rfl rfl ?_
    refine ev_callV (as := [vI a2]) (st := []) (k := 11) (i := 0) g_M_isChapter ml_M_143 rfl rfl (by decide) (by decide) d_M_evening_9 rfl rfl (Nat.le_of_ble_eq_true rfl) rfl (Nat.le_of_ble_eq_true rfl) ?_
    refine Ev.mono K ?_
    rintro _ s2 ⟨z3, rfl, K⟩
    show Ev none (d + 6) m_M_evening 12 [some (vR 11 0), some (vI a1), some (vI a2), some (vI a3)] [vI z3] s2 post
    obtain ⟨w4, e5⟩ : ∃ w : Int32, w = bi ((z3 = 0) ∨ (¬ (fp_M_in s2 (Int32.toInt64 a3) (0 : Int64) (2 : Int64)))) := ⟨_, rfl⟩
    have J1 : w4 = 1 → Ev none (d + 6) m_M_evening 37 [some (vR 11 0), some (vI a1), some (vI a2), some (vI a3)] [] s2 post := by
      intro e51
      replace K := K.1 (bi_1.mp ((e5.symm).trans e51))
      refine ev_bipush (v := -2) d_M_evening_37 (by decide) ?_
      exact ev_ret (r := some (vI (-2 : Int32))) d_M_evening_39 rfl rfl K
    have J0 : w4 = 0 → Ev none (d + 6) m_M_evening 27 [some (vR 11 0), some (vI a1), some (vI a2), some (vI a3)] [] s2 post := by
      intro e50
      replace K := K.2 (bi_0.mp ((e5.symm).trans e50))
      refine ev_aload_n d_M_evening_27 rfl rfl ?_
      refine ev_iload_n d_M_evening_28 rfl rfl ?_
      refine ev_iload_n d_M_evening_29 rfl rfl ?_
      refine ev_iload_n d_M_evening_30 rfl rfl ?_
      refine ev_callV (as := [vI a1, vI a2, vI a3]) (st := []) (k := 11) (i := 0) g_M_eveningOf ml_M_201 rfl rfl (by decide) (by decide) d_M_evening_31 rfl rfl (Nat.le_of_ble_eq_true rfl) rfl (Nat.le_of_ble_eq_true rfl) ?_
      refine Ev.mono K ?_
      rintro _ s6 ⟨z7, rfl, K⟩
      show Ev none (d + 6) m_M_evening 34 [some (vR 11 0), some (vI a1), some (vI a2), some (vI a3)] [vI z7] s6 post
      refine ev_goto (tgt := 39) d_M_evening_34 rfl ?_
      exact ev_ret (r := some (vI z7)) d_M_evening_39 rfl rfl K
    clear K
    refine ev_if_eq (tgt := 37) d_M_evening_12 rfl (fun h8 => ?_) (fun h8 => ?_)
    · rw [b4t h8] at e5
      exact J1 e5
    · rw [b4f h8] at e5
      refine ev_iload_n d_M_evening_15 rfl rfl ?_
      refine ev_i2l d_M_evening_16 ?_
      refine ev_lconst (v := 0) d_M_evening_17 (by decide) ?_
      refine ev_ldc2 d_M_evening_18 cn_M_90 ?_
      refine ev_callS (as := [vJ (Int32.toInt64 a3), vJ (0 : Int64), vJ (2 : Int64)]) (st := []) g_M_in ml_M_76 d_M_evening_21 rfl rfl (Nat.le_of_ble_eq_true rfl) rfl (Nat.le_of_ble_eq_true rfl) ?_
      refine f_M_in  ?_
      show Ev none (d + 6) m_M_evening 24 [some (vR 11 0), some (vI a1), some (vI a2), some (vI a3)] [vI (bi (fp_M_in s2 (Int32.toInt64 a3) (0 : Int64) (2 : Int64)))] s2 post
      refine ev_ifb_eq (tgt := 37) d_M_evening_24 rfl (fun h9 => ?_) (fun h9 => ?_)
      · rw [bi_t h9] at e5
        exact J1 e5
      · rw [bi_f (not_not_intro h9)] at e5
        exact J0 e5
set_option maxRecDepth 4000 in
theorem sg_M_pairs_0 {d : Nat} {σ : ST} {a1 : Int32} {a2 : Int32} {post : Option AV → ST → Prop} (K : Ev none (d + 5) m_M_reads 0 [some (vR 11 0), none] [] σ (fun r s1 => ∃ z2 : Int32, r = some (vI z2) ∧ ((((fp_M_isSome s1 a1) ∧ ((a2 = (-1 : Int32)) ∨ ((fp_M_isReader s1 a2) ∧ (fp_M_isIn s1 a1 a2)))) → (Ev none (d + 5) m_M_ones 0 [some (vI a1), none, none] [] s1 (fun r s5 => ∃ z6 : Int32, r = some (vI z6) ∧ ((((irm z6 (2 : Int32)) = (1 : Int32)) → (post (some (vI (-3 : Int32))) s5)) ∧ (¬ ((irm z6 (2 : Int32)) = (1 : Int32)) → (Ev none (d + 5) m_M_pairsOf 0 [some (vR 11 0), some (vI a1), some (vI a2), none, none, none] [] s5 (fun r s8 => ∃ z9 : Int32, r = some (vI z9) ∧ (post (some (vI z9)) s8)))))))) ∧ (¬ ((fp_M_isSome s1 a1) ∧ ((a2 = (-1 : Int32)) ∨ ((fp_M_isReader s1 a2) ∧ (fp_M_isIn s1 a1 a2)))) → (post (some (vI (-2 : Int32))) s1))))) : Ev none (d + 6) m_M_pairs 0 [some (vR 11 0), some (vI a1), some (vI a2)] [] σ post := by
  refine ev_aload_n d_M_pairs_0 rfl rfl ?_
  refine ev_callV (as := []) (st := []) (k := 11) (i := 0) g_M_reads ml_M_131 rfl rfl (by decide) (by decide) d_M_pairs_1 rfl rfl (Nat.le_of_ble_eq_true rfl) rfl (Nat.le_of_ble_eq_true rfl) ?_
  refine Ev.mono K ?_
  rintro _ s1 ⟨z2, rfl, K⟩
  show Ev none (d + 6) m_M_pairs 4 [some (vR 11 0), some (vI a1), some (vI a2)] [vI z2] s1 post
  refine ev_pop d_M_pairs_4 rfl ?_
  refine ev_iload_n d_M_pairs_5 rfl rfl ?_
  refine ev_callS (as := [vI a1]) (st := []) g_M_isSome ml_M_198 d_M_pairs_6 rfl rfl (Nat.le_of_ble_eq_true rfl) rfl (Nat.le_of_ble_eq_true rfl) ?_
  refine f_M_isSome  ?_
  show Ev none (d + 6) m_M_pairs 9 [some (vR 11 0), some (vI a1), some (vI a2)] [vI (bi (fp_M_isSome s1 a1))] s1 post
  obtain ⟨w3, e4⟩ : ∃ w : Int32, w = bi ((fp_M_isSome s1 a1) ∧ ((a2 = (-1 : Int32)) ∨ ((fp_M_isReader s1 a2) ∧ (fp_M_isIn s1 a1 a2)))) := ⟨_, rfl⟩
  have J1 : w3 = 1 → Ev none (d + 6) m_M_pairs 35 [some (vR 11 0), some (vI a1), some (vI a2)] [] s1 post := by
    intro e41
    replace K := K.1 (bi_1.mp ((e4.symm).trans e41))
    refine ev_iload_n d_M_pairs_35 rfl rfl ?_
    refine ev_callS (as := [vI a1]) (st := []) g_M_ones ml_M_246 d_M_pairs_36 rfl rfl (Nat.le_of_ble_eq_true rfl) rfl (Nat.le_of_ble_eq_true rfl) ?_
    refine Ev.mono K ?_
    rintro _ s5 ⟨z6, rfl, K⟩
    show Ev none (d + 6) m_M_pairs 39 [some (vR 11 0), some (vI a1), some (vI a2)] [vI z6] s5 post
    refine ev_iconst (v := 2) d_M_pairs_39 (by decide) ?_
    refine ev_irem d_M_pairs_40 (by decide) ?_
    refine ev_iconst (v := 1) d_M_pairs_41 (by decide) ?_
    refine ev_icmp_ne (tgt := 50) d_M_pairs_42 rfl (fun h7 => ?_) (fun h7 => ?_)
    · replace K := K.2 h7
      refine ev_aload_n d_M_pairs_50 rfl rfl ?_
      refine ev_iload_n d_M_pairs_51 rfl rfl ?_
      refine ev_iload_n d_M_pairs_52 rfl rfl ?_
      refine ev_callV (as := [vI a1, vI a2]) (st := []) (k := 11) (i := 0) g_M_pairsOf ml_M_258 rfl rfl (by decide) (by decide) d_M_pairs_53 rfl rfl (Nat.le_of_ble_eq_true rfl) rfl (Nat.le_of_ble_eq_true rfl) ?_
      refine Ev.mono K ?_
      rintro _ s8 ⟨z9, rfl, K⟩
      show Ev none (d + 6) m_M_pairs 56 [some (vR 11 0), some (vI a1), some (vI a2)] [vI z9] s8 post
      exact ev_ret (r := some (vI z9)) d_M_pairs_56 rfl rfl K
    · replace K := K.1 h7
      refine ev_bipush (v := -3) d_M_pairs_45 (by decide) ?_
      refine ev_goto (tgt := 56) d_M_pairs_47 rfl ?_
      exact ev_ret (r := some (vI (-3 : Int32))) d_M_pairs_56 rfl rfl K
  have J0 : w3 = 0 → Ev none (d + 6) m_M_pairs 32 [some (vR 11 0), some (vI a1), some (vI a2)] [] s1 post := by
    intro e40
    replace K := K.2 (bi_0.mp ((e4.symm).trans e40))
    refine ev_bipush (v := -2) d_M_pairs_32 (by decide) ?_
    exact ev_ret (r := some (vI (-2 : Int32))) d_M_pairs_34 rfl rfl K
  clear K
  refine ev_ifb_eq (tgt := 32) d_M_pairs_9 rfl (fun h10 => ?_) (fun h10 => ?_)
  · rw [b3f h10] at e4
    exact J0 e4
  · rw [b3t h10] at e4
    refine ev_iload_n d_M_pairs_12 rfl rfl ?_
    refine ev_iconst (v := -1) d_M_pairs_13 (by decide) ?_
    refine ev_icmp_eq (tgt := 35) d_M_pairs_14 rfl (fun h11 => ?_) (fun h11 => ?_)
    · rw [b4t h11] at e4
      exact J1 e4
    · rw [b4f h11] at e4
      refine ev_iload_n d_M_pairs_17 rfl rfl ?_
      refine ev_callS (as := [vI a2]) (st := []) g_M_isReader ml_M_149 d_M_pairs_18 rfl rfl (Nat.le_of_ble_eq_true rfl) rfl (Nat.le_of_ble_eq_true rfl) ?_
      refine f_M_isReader  ?_
      show Ev none (d + 6) m_M_pairs 21 [some (vR 11 0), some (vI a1), some (vI a2)] [vI (bi (fp_M_isReader s1 a2))] s1 post
      refine ev_ifb_eq (tgt := 32) d_M_pairs_21 rfl (fun h12 => ?_) (fun h12 => ?_)
      · rw [b3f h12] at e4
        exact J0 e4
      · rw [b3t h12] at e4
        refine ev_iload_n d_M_pairs_24 rfl rfl ?_
        refine ev_iload_n d_M_pairs_25 rfl rfl ?_
        refine ev_callS (as := [vI a1, vI a2]) (st := []) g_M_isIn ml_M_169 d_M_pairs_26 rfl rfl (Nat.le_of_ble_eq_true rfl) rfl (Nat.le_of_ble_eq_true rfl) ?_
        refine f_M_isIn  ?_
        show Ev none (d + 6) m_M_pairs 29 [some (vR 11 0), some (vI a1), some (vI a2)] [vI (bi (fp_M_isIn s1 a1 a2))] s1 post
        refine ev_ifb_ne (tgt := 35) d_M_pairs_29 rfl (fun h13 => ?_) (fun h13 => ?_)
        · rw [bi_t h13] at e4
          exact J1 e4
        · rw [bi_f h13] at e4
          exact J0 e4
set_option maxRecDepth 4000 in
theorem sg_M_rests_0 {d : Nat} {σ : ST} {a1 : Int32} {a2 : Int32} {a3 : Int32} {post : Option AV → ST → Prop} (K : Ev none (d + 5) m_M_reads 0 [some (vR 11 0), none] [] σ (fun r s1 => ∃ z2 : Int32, r = some (vI z2) ∧ (((¬ (fp_M_areTwo s1 a1 a2) ∨ (a3 < (-1 : Int32))) → (post (some (vI (-2 : Int32))) s1)) ∧ (¬ (¬ (fp_M_areTwo s1 a1 a2) ∨ (a3 < (-1 : Int32))) → (Ev none (d + 5) m_M_restsOf 0 [some (vR 11 0), some (vI a1), some (vI a2), some (vI a3), none, none] [] s1 (fun r s5 => ∃ z6 : Int32, r = some (vI z6) ∧ (post (some (vI z6)) s5))))))) : Ev none (d + 6) m_M_rests 0 [some (vR 11 0), some (vI a1), some (vI a2), some (vI a3)] [] σ post := by
  refine ev_aload_n d_M_rests_0 rfl rfl ?_
  refine ev_callV (as := []) (st := []) (k := 11) (i := 0) g_M_reads ml_M_131 rfl rfl (by decide) (by decide) d_M_rests_1 rfl rfl (Nat.le_of_ble_eq_true rfl) rfl (Nat.le_of_ble_eq_true rfl) ?_
  refine Ev.mono K ?_
  rintro _ s1 ⟨z2, rfl, K⟩
  show Ev none (d + 6) m_M_rests 4 [some (vR 11 0), some (vI a1), some (vI a2), some (vI a3)] [vI z2] s1 post
  refine ev_pop d_M_rests_4 rfl ?_
  refine ev_iload_n d_M_rests_5 rfl rfl ?_
  refine ev_iload_n d_M_rests_6 rfl rfl ?_
  refine ev_callS (as := [vI a1, vI a2]) (st := []) g_M_areTwo ml_M_223 d_M_rests_7 rfl rfl (Nat.le_of_ble_eq_true rfl) rfl (Nat.le_of_ble_eq_true rfl) ?_
  refine f_M_areTwo  ?_
  show Ev none (d + 6) m_M_rests 10 [some (vR 11 0), some (vI a1), some (vI a2), some (vI a3)] [vI (bi (fp_M_areTwo s1 a1 a2))] s1 post
  obtain ⟨w3, e4⟩ : ∃ w : Int32, w = bi (¬ (fp_M_areTwo s1 a1 a2) ∨ (a3 < (-1 : Int32))) := ⟨_, rfl⟩
  have J1 : w3 = 1 → Ev none (d + 6) m_M_rests 28 [some (vR 11 0), some (vI a1), some (vI a2), some (vI a3)] [] s1 post := by
    intro e41
    replace K := K.1 (bi_1.mp ((e4.symm).trans e41))
    refine ev_bipush (v := -2) d_M_rests_28 (by decide) ?_
    exact ev_ret (r := some (vI (-2 : Int32))) d_M_rests_30 rfl rfl K
  have J0 : w3 = 0 → Ev none (d + 6) m_M_rests 18 [some (vR 11 0), some (vI a1), some (vI a2), some (vI a3)] [] s1 post := by
    intro e40
    replace K := K.2 (bi_0.mp ((e4.symm).trans e40))
    refine ev_aload_n d_M_rests_18 rfl rfl ?_
    refine ev_iload_n d_M_rests_19 rfl rfl ?_
    refine ev_iload_n d_M_rests_20 rfl rfl ?_
    refine ev_iload_n d_M_rests_21 rfl rfl ?_
    refine ev_callV (as := [vI a1, vI a2, vI a3]) (st := []) (k := 11) (i := 0) g_M_restsOf ml_M_242 rfl rfl (by decide) (by decide) d_M_rests_22 rfl rfl (Nat.le_of_ble_eq_true rfl) rfl (Nat.le_of_ble_eq_true rfl) ?_
    refine Ev.mono K ?_
    rintro _ s5 ⟨z6, rfl, K⟩
    show Ev none (d + 6) m_M_rests 25 [some (vR 11 0), some (vI a1), some (vI a2), some (vI a3)] [vI z6] s5 post
    refine ev_goto (tgt := 30) d_M_rests_25 rfl ?_
    exact ev_ret (r := some (vI z6)) d_M_rests_30 rfl rfl K
  clear K
  refine ev_ifb_eq (tgt := 28) d_M_rests_10 rfl (fun h7 => ?_) (fun h7 => ?_)
  · rw [b6f h7] at e4
    exact J1 e4
  · rw [b6t h7] at e4
    refine ev_iload_n d_M_rests_13 rfl rfl ?_
    refine ev_iconst (v := -1) d_M_rests_14 (by decide) ?_
    refine ev_icmp_lt (tgt := 28) d_M_rests_15 rfl (fun h8 => ?_) (fun h8 => ?_)
    · rw [bi_t h8] at e4
      exact J1 e4
    · rw [bi_f h8] at e4
      exact J0 e4
set_option maxRecDepth 4000 in
theorem sg_M_waited_0 {d : Nat} {σ : ST} {a1 : Int32} {a2 : Int32} {a3 : Int32} {a4 : Int32} {post : Option AV → ST → Prop} (K : ((fp_M_isSome σ a1) → (Ev none (d + 5) m_M_isChapter 0 [some (vR 11 0), some (vI a2)] [] σ (fun r s8 => ∃ z9 : Int32, r = some (vI z9) ∧ (∀ z10 : Int32, z10 = (bi (¬ (z9 = 0) ∧ ((fp_M_isReader s8 a3) ∧ (fp_M_isTwo s8 a4)))) → ((((z10 = 0) ∨ (¬ (fp_M_isIn s8 a1 a3))) → (post (some (vI (-2 : Int32))) s8)) ∧ (¬ ((z10 = 0) ∨ (¬ (fp_M_isIn s8 a1 a3))) → (Ev none (d + 5) m_M_waitedOf 0 [some (vR 11 0), some (vI a1), some (vI a2), some (vI a3), some (vI a4), none] [] s8 (fun r s13 => ∃ z14 : Int32, r = some (vI z14) ∧ (post (some (vI z14)) s13))))))))) ∧ (¬ (fp_M_isSome σ a1) → (((((0 : Int32) = 0) ∨ (¬ (fp_M_isIn σ a1 a3))) → (post (some (vI (-2 : Int32))) σ)) ∧ (¬ (((0 : Int32) = 0) ∨ (¬ (fp_M_isIn σ a1 a3))) → (Ev none (d + 5) m_M_waitedOf 0 [some (vR 11 0), some (vI a1), some (vI a2), some (vI a3), some (vI a4), none] [] σ (fun r s4 => ∃ z5 : Int32, r = some (vI z5) ∧ (post (some (vI z5)) s4))))))) : Ev none (d + 6) m_M_waited 0 [some (vR 11 0), some (vI a1), some (vI a2), some (vI a3), some (vI a4), none] [] σ post := by
  refine ev_iload_n d_M_waited_0 rfl rfl ?_
  refine ev_callS (as := [vI a1]) (st := []) g_M_isSome ml_M_198 d_M_waited_1 rfl rfl (Nat.le_of_ble_eq_true rfl) rfl (Nat.le_of_ble_eq_true rfl) ?_
  refine f_M_isSome  ?_
  show Ev none (d + 6) m_M_waited 4 [some (vR 11 0), some (vI a1), some (vI a2), some (vI a3), some (vI a4), none] [vI (bi (fp_M_isSome σ a1))] σ post
  refine ev_ifb_eq (tgt := 34) d_M_waited_4 rfl (fun h1 => ?_) (fun h1 => ?_)
  · replace K := K.2 h1
    refine ev_iconst (v := 0) d_M_waited_34 (by decide) ?_
    refine ev_istore (L' := [some (vR 11 0), some (vI a1), some (vI a2), some (vI a3), some (vI a4), some (vI (0 : Int32))]) d_M_waited_35 (by decide) rfl ?_
    refine ev_iload d_M_waited_37 rfl ?_
    obtain ⟨w2, e3⟩ : ∃ w : Int32, w = bi (((0 : Int32) = 0) ∨ (¬ (fp_M_isIn σ a1 a3))) := ⟨_, rfl⟩
    have J1 : w2 = 1 → Ev none (d + 6) m_M_waited 62 [some (vR 11 0), some (vI a1), some (vI a2), some (vI a3), some (vI a4), some (vI (0 : Int32))] [] σ post := by
      intro e31
      replace K := K.1 (bi_1.mp ((e3.symm).trans e31))
      refine ev_bipush (v := -2) d_M_waited_62 (by decide) ?_
      exact ev_ret (r := some (vI (-2 : Int32))) d_M_waited_64 rfl rfl K
    have J0 : w2 = 0 → Ev none (d + 6) m_M_waited 50 [some (vR 11 0), some (vI a1), some (vI a2), some (vI a3), some (vI a4), some (vI (0 : Int32))] [] σ post := by
      intro e30
      replace K := K.2 (bi_0.mp ((e3.symm).trans e30))
      refine ev_aload_n d_M_waited_50 rfl rfl ?_
      refine ev_iload_n d_M_waited_51 rfl rfl ?_
      refine ev_iload_n d_M_waited_52 rfl rfl ?_
      refine ev_iload_n d_M_waited_53 rfl rfl ?_
      refine ev_iload d_M_waited_54 rfl ?_
      refine ev_callV (as := [vI a1, vI a2, vI a3, vI a4]) (st := []) (k := 11) (i := 0) g_M_waitedOf ml_M_204 rfl rfl (by decide) (by decide) d_M_waited_56 rfl rfl (Nat.le_of_ble_eq_true rfl) rfl (Nat.le_of_ble_eq_true rfl) ?_
      refine Ev.mono K ?_
      rintro _ s4 ⟨z5, rfl, K⟩
      show Ev none (d + 6) m_M_waited 59 [some (vR 11 0), some (vI a1), some (vI a2), some (vI a3), some (vI a4), some (vI (0 : Int32))] [vI z5] s4 post
      refine ev_goto (tgt := 64) d_M_waited_59 rfl ?_
      exact ev_ret (r := some (vI z5)) d_M_waited_64 rfl rfl K
    clear K
    refine ev_if_eq (tgt := 62) d_M_waited_39 rfl (fun h6 => ?_) (fun h6 => ?_)
    · rw [b4t h6] at e3
      exact J1 e3
    · rw [b4f h6] at e3
      refine ev_iload_n d_M_waited_42 rfl rfl ?_
      refine ev_iload_n d_M_waited_43 rfl rfl ?_
      refine ev_callS (as := [vI a1, vI a3]) (st := []) g_M_isIn ml_M_169 d_M_waited_44 rfl rfl (Nat.le_of_ble_eq_true rfl) rfl (Nat.le_of_ble_eq_true rfl) ?_
      refine f_M_isIn  ?_
      show Ev none (d + 6) m_M_waited 47 [some (vR 11 0), some (vI a1), some (vI a2), some (vI a3), some (vI a4), some (vI (0 : Int32))] [vI (bi (fp_M_isIn σ a1 a3))] σ post
      refine ev_ifb_eq (tgt := 62) d_M_waited_47 rfl (fun h7 => ?_) (fun h7 => ?_)
      · rw [bi_t h7] at e3
        exact J1 e3
      · rw [bi_f (not_not_intro h7)] at e3
        exact J0 e3
  · replace K := K.1 h1
    refine ev_aload_n d_M_waited_7 rfl rfl ?_
    refine ev_iload_n d_M_waited_8 rfl rfl ?_
    refine ev_callV (as := [vI a2]) (st := []) (k := 11) (i := 0) g_M_isChapter ml_M_143 rfl rfl (by decide) (by decide) d_M_waited_9 rfl rfl (Nat.le_of_ble_eq_true rfl) rfl (Nat.le_of_ble_eq_true rfl) ?_
    refine Ev.mono K ?_
    rintro _ s8 ⟨z9, rfl, K⟩
    show Ev none (d + 6) m_M_waited 12 [some (vR 11 0), some (vI a1), some (vI a2), some (vI a3), some (vI a4), none] [vI z9] s8 post
    obtain ⟨z10, ez10⟩ : ∃ z : Int32, z = (bi (¬ (z9 = 0) ∧ ((fp_M_isReader s8 a3) ∧ (fp_M_isTwo s8 a4)))) := ⟨_, rfl⟩
    replace K := K z10 ez10
    have JJ : Ev none (d + 6) m_M_waited 35 [some (vR 11 0), some (vI a1), some (vI a2), some (vI a3), some (vI a4), none] [vI z10] s8 post := by
      refine ev_istore (L' := [some (vR 11 0), some (vI a1), some (vI a2), some (vI a3), some (vI a4), some (vI z10)]) d_M_waited_35 (by decide) rfl ?_
      refine ev_iload d_M_waited_37 rfl ?_
      obtain ⟨w11, e12⟩ : ∃ w : Int32, w = bi ((z10 = 0) ∨ (¬ (fp_M_isIn s8 a1 a3))) := ⟨_, rfl⟩
      have J1 : w11 = 1 → Ev none (d + 6) m_M_waited 62 [some (vR 11 0), some (vI a1), some (vI a2), some (vI a3), some (vI a4), some (vI z10)] [] s8 post := by
        intro e121
        replace K := K.1 (bi_1.mp ((e12.symm).trans e121))
        refine ev_bipush (v := -2) d_M_waited_62 (by decide) ?_
        exact ev_ret (r := some (vI (-2 : Int32))) d_M_waited_64 rfl rfl K
      have J0 : w11 = 0 → Ev none (d + 6) m_M_waited 50 [some (vR 11 0), some (vI a1), some (vI a2), some (vI a3), some (vI a4), some (vI z10)] [] s8 post := by
        intro e120
        replace K := K.2 (bi_0.mp ((e12.symm).trans e120))
        refine ev_aload_n d_M_waited_50 rfl rfl ?_
        refine ev_iload_n d_M_waited_51 rfl rfl ?_
        refine ev_iload_n d_M_waited_52 rfl rfl ?_
        refine ev_iload_n d_M_waited_53 rfl rfl ?_
        refine ev_iload d_M_waited_54 rfl ?_
        refine ev_callV (as := [vI a1, vI a2, vI a3, vI a4]) (st := []) (k := 11) (i := 0) g_M_waitedOf ml_M_204 rfl rfl (by decide) (by decide) d_M_waited_56 rfl rfl (Nat.le_of_ble_eq_true rfl) rfl (Nat.le_of_ble_eq_true rfl) ?_
        refine Ev.mono K ?_
        rintro _ s13 ⟨z14, rfl, K⟩
        show Ev none (d + 6) m_M_waited 59 [some (vR 11 0), some (vI a1), some (vI a2), some (vI a3), some (vI a4), some (vI z10)] [vI z14] s13 post
        refine ev_goto (tgt := 64) d_M_waited_59 rfl ?_
        exact ev_ret (r := some (vI z14)) d_M_waited_64 rfl rfl K
      clear K
      refine ev_if_eq (tgt := 62) d_M_waited_39 rfl (fun h15 => ?_) (fun h15 => ?_)
      · rw [b4t h15] at e12
        exact J1 e12
      · rw [b4f h15] at e12
        refine ev_iload_n d_M_waited_42 rfl rfl ?_
        refine ev_iload_n d_M_waited_43 rfl rfl ?_
        refine ev_callS (as := [vI a1, vI a3]) (st := []) g_M_isIn ml_M_169 d_M_waited_44 rfl rfl (Nat.le_of_ble_eq_true rfl) rfl (Nat.le_of_ble_eq_true rfl) ?_
        refine f_M_isIn  ?_
        show Ev none (d + 6) m_M_waited 47 [some (vR 11 0), some (vI a1), some (vI a2), some (vI a3), some (vI a4), some (vI z10)] [vI (bi (fp_M_isIn s8 a1 a3))] s8 post
        refine ev_ifb_eq (tgt := 62) d_M_waited_47 rfl (fun h16 => ?_) (fun h16 => ?_)
        · rw [bi_t h16] at e12
          exact J1 e12
        · rw [bi_f (not_not_intro h16)] at e12
          exact J0 e12
    clear K
    refine ev_if_eq (tgt := 34) d_M_waited_12 rfl (fun h17 => ?_) (fun h17 => ?_)
    · rw [b5t h17] at ez10
      refine ev_iconst (v := 0) d_M_waited_34 (by decide) ?_
      subst ez10
      exact JJ
    · rw [b5f h17] at ez10
      refine ev_iload_n d_M_waited_15 rfl rfl ?_
      refine ev_callS (as := [vI a3]) (st := []) g_M_isReader ml_M_149 d_M_waited_16 rfl rfl (Nat.le_of_ble_eq_true rfl) rfl (Nat.le_of_ble_eq_true rfl) ?_
      refine f_M_isReader  ?_
      show Ev none (d + 6) m_M_waited 19 [some (vR 11 0), some (vI a1), some (vI a2), some (vI a3), some (vI a4), none] [vI (bi (fp_M_isReader s8 a3))] s8 post
      refine ev_ifb_eq (tgt := 34) d_M_waited_19 rfl (fun h18 => ?_) (fun h18 => ?_)
      · rw [b3f h18] at ez10
        refine ev_iconst (v := 0) d_M_waited_34 (by decide) ?_
        subst ez10
        exact JJ
      · rw [b3t h18] at ez10
        refine ev_iload d_M_waited_22 rfl ?_
        refine ev_callS (as := [vI a4]) (st := []) g_M_isTwo ml_M_160 d_M_waited_24 rfl rfl (Nat.le_of_ble_eq_true rfl) rfl (Nat.le_of_ble_eq_true rfl) ?_
        refine f_M_isTwo  ?_
        show Ev none (d + 6) m_M_waited 27 [some (vR 11 0), some (vI a1), some (vI a2), some (vI a3), some (vI a4), none] [vI (bi (fp_M_isTwo s8 a4))] s8 post
        refine ev_ifb_eq (tgt := 34) d_M_waited_27 rfl (fun h19 => ?_) (fun h19 => ?_)
        · rw [bi_f h19] at ez10
          refine ev_iconst (v := 0) d_M_waited_34 (by decide) ?_
          subst ez10
          exact JJ
        · rw [bi_t h19] at ez10
          refine ev_iconst (v := 1) d_M_waited_30 (by decide) ?_
          refine ev_goto (tgt := 35) d_M_waited_31 rfl ?_
          subst ez10
          exact JJ
