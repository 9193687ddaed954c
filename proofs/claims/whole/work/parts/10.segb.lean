-- segments (by program: wip/gen/gen_seg.py)
set_option maxRecDepth 4000 in
theorem sg_O_found_0 {d : Nat} {σ : ST} {a1 : Int32} {post : Option AV → ST → Prop} (K : post (some (vI ((-10 : Int32) - a1))) (setI σ 0 0 11 a1)) : Ev none d m_O_found 0 [some (vR 0 0), some (vI a1)] [] σ post := by
  refine ev_aload_n d_O_found_0 rfl rfl ?_
  refine ev_iload_n d_O_found_1 rfl rfl ?_
  refine ev_putI gp_O_83 rfl (by decide) d_O_found_2 ?_
  refine ev_bipush (v := -10) d_O_found_5 (by decide) ?_
  refine ev_iload_n d_O_found_7 rfl rfl ?_
  refine ev_isub d_O_found_8 ?_
  exact ev_ret (r := some (vI ((-10 : Int32) - a1))) d_O_found_9 rfl rfl K
set_option maxRecDepth 4000 in
theorem sg_O_forget_0 {d : Nat} {σ : ST}  {post : Option AV → ST → Prop} (K : Ev none d m_U_clear 0 [some (vR 8 0)] [] σ (fun r s1 => r = none ∧ (post (some (vI (fn_U_size σ))) s1))) : Ev none (d + 1) m_O_forget 0 [some (vR 0 0), none] [] σ post := by
  refine ev_aload_n d_O_forget_0 rfl rfl ?_
  refine ev_getR gf_O_58 rfl (by decide) d_O_forget_1 ?_
  refine ev_callV (as := []) (st := []) (k := 8) (i := 0) g_U_size ml_O_245 rfl rfl (by decide) (by decide) d_O_forget_4 rfl rfl (Nat.le_of_ble_eq_true rfl) rfl (Nat.le_of_ble_eq_true rfl) ?_
  refine f_U_size  ?_
  show Ev none (d + 1) m_O_forget 7 [some (vR 0 0), none] [vI (fn_U_size σ)] σ post
  refine ev_istore_n (L' := [some (vR 0 0), some (vI (fn_U_size σ))]) d_O_forget_7 rfl (by decide) rfl ?_
  refine ev_aload_n d_O_forget_8 rfl rfl ?_
  refine ev_getR gf_O_58 rfl (by decide) d_O_forget_9 ?_
  refine ev_callV (as := []) (st := []) (k := 8) (i := 0) g_U_clear ml_O_246 rfl rfl (by decide) (by decide) d_O_forget_12 rfl rfl (Nat.le_of_ble_eq_true rfl) rfl (Nat.le_of_ble_eq_true rfl) ?_
  refine Ev.mono K ?_
  rintro _ s1 ⟨rfl, K⟩
  show Ev none (d + 1) m_O_forget 15 [some (vR 0 0), some (vI (fn_U_size σ))] [] s1 post
  refine ev_iload_n d_O_forget_15 rfl rfl ?_
  exact ev_ret (r := some (vI (fn_U_size σ))) d_O_forget_16 rfl rfl K
set_option maxRecDepth 4000 in
theorem sg_O_set_0 {d : Nat} {σ : ST} {a1 : Int32} {a2 : Int32} {post : Option AV → ST → Prop} (K : ((fp_O_within σ a1 (0 : Int32) (1 : Int32)) → (((fp_O_within σ a2 (0 : Int32) (999 : Int32)) → (∀ z3 : Int32, z3 = (if a1 = 0 then (σ.1 0 0 9) else (σ.1 0 0 10)) → (((a1 = 0) → (post (some (vI z3)) (setI σ 0 0 9 a2))) ∧ (¬ (a1 = 0) → (post (some (vI z3)) (setI σ 0 0 10 a2)))))) ∧ (¬ (fp_O_within σ a2 (0 : Int32) (999 : Int32)) → (post (some (vI (-2 : Int32))) σ)))) ∧ (¬ (fp_O_within σ a1 (0 : Int32) (1 : Int32)) → (post (some (vI (-2 : Int32))) σ))) : Ev none (d + 1) m_O_set 0 [some (vR 0 0), some (vI a1), some (vI a2), none] [] σ post := by
  refine ev_iload_n d_O_set_0 rfl rfl ?_
  refine ev_iconst (v := 0) d_O_set_1 (by decide) ?_
  refine ev_iconst (v := 1) d_O_set_2 (by decide) ?_
  refine ev_callS (as := [vI a1, vI (0 : Int32), vI (1 : Int32)]) (st := []) g_O_within ml_O_86 d_O_set_3 rfl rfl (Nat.le_of_ble_eq_true rfl) rfl (Nat.le_of_ble_eq_true rfl) ?_
  refine f_O_within  ?_
  show Ev none (d + 1) m_O_set 6 [some (vR 0 0), some (vI a1), some (vI a2), none] [vI (bi (fp_O_within σ a1 (0 : Int32) (1 : Int32)))] σ post
  refine ev_ifb_eq (tgt := 20) d_O_set_6 rfl (fun h1 => ?_) (fun h1 => ?_)
  · replace K := K.2 h1
    refine ev_bipush (v := -2) d_O_set_20 (by decide) ?_
    exact ev_ret (r := some (vI (-2 : Int32))) d_O_set_22 rfl rfl K
  · replace K := K.1 h1
    refine ev_iload_n d_O_set_9 rfl rfl ?_
    refine ev_iconst (v := 0) d_O_set_10 (by decide) ?_
    refine ev_sipush (v := 999) d_O_set_11 (by decide) ?_
    refine ev_callS (as := [vI a2, vI (0 : Int32), vI (999 : Int32)]) (st := []) g_O_within ml_O_86 d_O_set_14 rfl rfl (Nat.le_of_ble_eq_true rfl) rfl (Nat.le_of_ble_eq_true rfl) ?_
    refine f_O_within  ?_
    show Ev none (d + 1) m_O_set 17 [some (vR 0 0), some (vI a1), some (vI a2), none] [vI (bi (fp_O_within σ a2 (0 : Int32) (999 : Int32)))] σ post
    refine ev_ifb_ne (tgt := 23) d_O_set_17 rfl (fun h2 => ?_) (fun h2 => ?_)
    · replace K := K.1 h2
      refine ev_iload_n d_O_set_23 rfl rfl ?_
      obtain ⟨z3, ez3⟩ : ∃ z : Int32, z = (if a1 = 0 then (σ.1 0 0 9) else (σ.1 0 0 10)) := ⟨_, rfl⟩
      replace K := K z3 ez3
      have JJ : Ev none (d + 1) m_O_set 38 [some (vR 0 0), some (vI a1), some (vI a2), none] [vI z3] σ post := by
        refine ev_istore_n (L' := [some (vR 0 0), some (vI a1), some (vI a2), some (vI z3)]) d_O_set_38 rfl (by decide) rfl ?_
        refine ev_iload_n d_O_set_39 rfl rfl ?_
        refine ev_if_ne (tgt := 51) d_O_set_40 rfl (fun h4 => ?_) (fun h4 => ?_)
        · replace K := K.2 h4
          refine ev_aload_n d_O_set_51 rfl rfl ?_
          refine ev_iload_n d_O_set_52 rfl rfl ?_
          refine ev_putI gp_O_80 rfl (by decide) d_O_set_53 ?_
          refine ev_iload_n d_O_set_56 rfl rfl ?_
          exact ev_ret (r := some (vI z3)) d_O_set_57 rfl rfl K
        · replace K := K.1 h4
          refine ev_aload_n d_O_set_43 rfl rfl ?_
          refine ev_iload_n d_O_set_44 rfl rfl ?_
          refine ev_putI gp_O_76 rfl (by decide) d_O_set_45 ?_
          refine ev_goto (tgt := 56) d_O_set_48 rfl ?_
          refine ev_iload_n d_O_set_56 rfl rfl ?_
          exact ev_ret (r := some (vI z3)) d_O_set_57 rfl rfl K
      clear K
      refine ev_if_ne (tgt := 34) d_O_set_24 rfl (fun h5 => ?_) (fun h5 => ?_)
      · rw [if_neg h5] at ez3
        refine ev_aload_n d_O_set_34 rfl rfl ?_
        refine ev_getI gf_O_80 rfl (by decide) d_O_set_35 ?_
        subst ez3
        exact JJ
      · rw [if_pos h5] at ez3
        refine ev_aload_n d_O_set_27 rfl rfl ?_
        refine ev_getI gf_O_76 rfl (by decide) d_O_set_28 ?_
        refine ev_goto (tgt := 38) d_O_set_31 rfl ?_
        subst ez3
        exact JJ
    · replace K := K.2 h2
      refine ev_bipush (v := -2) d_O_set_20 (by decide) ?_
      exact ev_ret (r := some (vI (-2 : Int32))) d_O_set_22 rfl rfl K
set_option maxRecDepth 4000 in
theorem sg_O_skip_0 {d : Nat} {σ : ST} {a1 : Int32} {a2 : Int32} {post : Option AV → ST → Prop} (K : ((fp_O_within σ a1 (0 : Int32) (7 : Int32)) → (((fp_O_within σ a2 (0 : Int32) (1 : Int32)) → (∀ z3 : Int32, z3 = (bi (a2 = (1 : Int32))) → (Ev none d m_C_changeSkip 0 [some (vR 2 0), some (vI a1), some (vI z3), none] [] σ (fun r s4 => ∃ z5 : Int32, r = some (vI z5) ∧ (post (some (vI (fn_O_asNumber s4 z5))) s4))))) ∧ (¬ (fp_O_within σ a2 (0 : Int32) (1 : Int32)) → (post (some (vI (-2 : Int32))) σ)))) ∧ (¬ (fp_O_within σ a1 (0 : Int32) (7 : Int32)) → (post (some (vI (-2 : Int32))) σ))) : Ev none (d + 1) m_O_skip 0 [some (vR 0 0), some (vI a1), some (vI a2)] [] σ post := by
  refine ev_iload_n d_O_skip_0 rfl rfl ?_
  refine ev_iconst (v := 0) d_O_skip_1 (by decide) ?_
  refine ev_bipush (v := 7) d_O_skip_2 (by decide) ?_
  refine ev_callS (as := [vI a1, vI (0 : Int32), vI (7 : Int32)]) (st := []) g_O_within ml_O_86 d_O_skip_4 rfl rfl (Nat.le_of_ble_eq_true rfl) rfl (Nat.le_of_ble_eq_true rfl) ?_
  refine f_O_within  ?_
  show Ev none (d + 1) m_O_skip 7 [some (vR 0 0), some (vI a1), some (vI a2)] [vI (bi (fp_O_within σ a1 (0 : Int32) (7 : Int32)))] σ post
  refine ev_ifb_eq (tgt := 19) d_O_skip_7 rfl (fun h1 => ?_) (fun h1 => ?_)
  · replace K := K.2 h1
    refine ev_bipush (v := -2) d_O_skip_19 (by decide) ?_
    exact ev_ret (r := some (vI (-2 : Int32))) d_O_skip_21 rfl rfl K
  · replace K := K.1 h1
    refine ev_iload_n d_O_skip_10 rfl rfl ?_
    refine ev_iconst (v := 0) d_O_skip_11 (by decide) ?_
    refine ev_iconst (v := 1) d_O_skip_12 (by decide) ?_
    refine ev_callS (as := [vI a2, vI (0 : Int32), vI (1 : Int32)]) (st := []) g_O_within ml_O_86 d_O_skip_13 rfl rfl (Nat.le_of_ble_eq_true rfl) rfl (Nat.le_of_ble_eq_true rfl) ?_
    refine f_O_within  ?_
    show Ev none (d + 1) m_O_skip 16 [some (vR 0 0), some (vI a1), some (vI a2)] [vI (bi (fp_O_within σ a2 (0 : Int32) (1 : Int32)))] σ post
    refine ev_ifb_ne (tgt := 22) d_O_skip_16 rfl (fun h2 => ?_) (fun h2 => ?_)
    · replace K := K.1 h2
      refine ev_aload_n d_O_skip_22 rfl rfl ?_
      refine ev_getR gf_O_21 rfl (by decide) d_O_skip_23 ?_
      refine ev_iload_n d_O_skip_26 rfl rfl ?_
      refine ev_iload_n d_O_skip_27 rfl rfl ?_
      refine ev_iconst (v := 1) d_O_skip_28 (by decide) ?_
      obtain ⟨z3, ez3⟩ : ∃ z : Int32, z = (bi (a2 = (1 : Int32))) := ⟨_, rfl⟩
      replace K := K z3 ez3
      have JJ : Ev none (d + 1) m_O_skip 37 [none, none, none] [vI z3, vI a1, vR 2 0] σ post := by
        refine ev_callV (as := [vI a1, vI z3]) (st := []) (k := 2) (i := 0) g_C_changeSkip ml_O_160 rfl rfl (by decide) (by decide) d_O_skip_37 rfl rfl (Nat.le_of_ble_eq_true rfl) rfl (Nat.le_of_ble_eq_true rfl) ?_
        refine Ev.mono K ?_
        rintro _ s4 ⟨z5, rfl, K⟩
        show Ev none (d + 1) m_O_skip 40 [none, none, none] [vI z5] s4 post
        refine ev_callS (as := [vI z5]) (st := []) g_O_asNumber ml_O_117 d_O_skip_40 rfl rfl (Nat.le_of_ble_eq_true rfl) rfl (Nat.le_of_ble_eq_true rfl) ?_
        refine f_O_asNumber  ?_
        show Ev none (d + 1) m_O_skip 43 [none, none, none] [vI (fn_O_asNumber s4 z5)] s4 post
        exact ev_ret (r := some (vI (fn_O_asNumber s4 z5))) d_O_skip_43 rfl rfl K
      clear K
      refine ev_icmp_ne (tgt := 36) d_O_skip_29 rfl (fun h6 => ?_) (fun h6 => ?_)
      · rw [bi_f h6] at ez3
        refine ev_iconst (v := 0) d_O_skip_36 (by decide) ?_
        subst ez3
        exact Ev.wk (lsub_sk (lsub_sk (lsub_sk (lsub_nil)))) JJ
      · rw [bi_t h6] at ez3
        refine ev_iconst (v := 1) d_O_skip_32 (by decide) ?_
        refine ev_goto (tgt := 37) d_O_skip_33 rfl ?_
        subst ez3
        exact Ev.wk (lsub_sk (lsub_sk (lsub_sk (lsub_nil)))) JJ
    · replace K := K.2 h2
      refine ev_bipush (v := -2) d_O_skip_19 (by decide) ?_
      exact ev_ret (r := some (vI (-2 : Int32))) d_O_skip_21 rfl rfl K
set_option maxRecDepth 4000 in
theorem sg_O_copy_0 {d : Nat} {σ : ST} {a1 : Int32} {a2 : Int32} {a3 : Int32} {a4 : Int32} {a5 : Int32} {post : Option AV → ST → Prop} (K : (((fp_O_isSheet σ a1) ∧ (fp_O_isSheet σ a3)) → ((vp_in a1 4) ∧ ((vp_in a3 4) ∧ ((fs_H_isLost σ (a1.toNatClampNeg)) ∧ ((((fn_H_isLost σ (a1.toNatClampNeg)) = 0) → ((fs_H_isLost σ (a3.toNatClampNeg)) ∧ ((((fn_H_isLost σ (a3.toNatClampNeg)) = 0) → ((((fn_H_form σ (a1.toNatClampNeg)) = (fn_H_form σ (a3.toNatClampNeg))) → ((((fp_H_spans σ (a1.toNatClampNeg) a2 a5) ∧ (fp_H_spans σ (a3.toNatClampNeg) a4 a5)) → (Ev none (d + 1) m_H_takeFrom 0 [some (vR 10 (a3.toNatClampNeg)), some (vR 10 (a1.toNatClampNeg)), some (vI a2), some (vI a4), some (vI a5)] [] σ (fun r s16 => r = none ∧ (post (some (vI (1 : Int32))) s16)))) ∧ (¬ ((fp_H_spans σ (a1.toNatClampNeg) a2 a5) ∧ (fp_H_spans σ (a3.toNatClampNeg) a4 a5)) → (Ev none (d + 1) m_O_found 0 [some (vR 0 0), some (vI (2 : Int32))] [] σ (fun r s17 => ∃ z18 : Int32, r = some (vI z18) ∧ (post (some (vI z18)) s17)))))) ∧ (¬ ((fn_H_form σ (a1.toNatClampNeg)) = (fn_H_form σ (a3.toNatClampNeg))) → (Ev none (d + 1) m_O_found 0 [some (vR 0 0), some (vI (4 : Int32))] [] σ (fun r s21 => ∃ z22 : Int32, r = some (vI z22) ∧ (post (some (vI z22)) s21)))))) ∧ (¬ ((fn_H_isLost σ (a3.toNatClampNeg)) = 0) → (Ev none (d + 1) m_O_found 0 [some (vR 0 0), some (vI (1 : Int32))] [] σ (fun r s23 => ∃ z24 : Int32, r = some (vI z24) ∧ (post (some (vI z24)) s23))))))) ∧ (¬ ((fn_H_isLost σ (a1.toNatClampNeg)) = 0) → (Ev none (d + 1) m_O_found 0 [some (vR 0 0), some (vI (1 : Int32))] [] σ (fun r s9 => ∃ z10 : Int32, r = some (vI z10) ∧ (post (some (vI z10)) s9))))))))) ∧ (¬ ((fp_O_isSheet σ a1) ∧ (fp_O_isSheet σ a3)) → (post (some (vI (-2 : Int32))) σ))) : Ev none (d + 2) m_O_copy 0 [some (vR 0 0), some (vI a1), some (vI a2), some (vI a3), some (vI a4), some (vI a5), none, none] [] σ post := by
  refine ev_iload_n d_O_copy_0 rfl rfl ?_
  refine ev_callS (as := [vI a1]) (st := []) g_O_isSheet ml_O_137 d_O_copy_1 rfl rfl (Nat.le_of_ble_eq_true rfl) rfl (Nat.le_of_ble_eq_true rfl) ?_
  refine f_O_isSheet  ?_
  show Ev none (d + 2) m_O_copy 4 [some (vR 0 0), some (vI a1), some (vI a2), some (vI a3), some (vI a4), some (vI a5), none, none] [vI (bi (fp_O_isSheet σ a1))] σ post
  obtain ⟨w1, e2⟩ : ∃ w : Int32, w = bi ((fp_O_isSheet σ a1) ∧ (fp_O_isSheet σ a3)) := ⟨_, rfl⟩
  have J1 : w1 = 1 → Ev none (d + 2) m_O_copy 17 [some (vR 0 0), some (vI a1), some (vI a2), some (vI a3), some (vI a4), some (vI a5), none, none] [] σ post := by
    intro e21
    replace K := K.1 (bi_1.mp ((e2.symm).trans e21))
    refine ev_aload_n d_O_copy_17 rfl rfl ?_
    refine ev_getR gf_O_71 rfl (by decide) d_O_copy_18 ?_
    refine ev_iload_n d_O_copy_21 rfl rfl ?_
    obtain ⟨q3, K⟩ := K
    refine ev_aald4 rfl (by decide) (by decide) q3 d_O_copy_22 ?_
    have b4 := ix_lt q3
    refine ev_astore (L' := [some (vR 0 0), some (vI a1), some (vI a2), some (vI a3), some (vI a4), some (vI a5), some (vR 10 (a1.toNatClampNeg)), none]) d_O_copy_23 (by decide) rfl ?_
    refine ev_aload_n d_O_copy_25 rfl rfl ?_
    refine ev_getR gf_O_71 rfl (by decide) d_O_copy_26 ?_
    refine ev_iload_n d_O_copy_29 rfl rfl ?_
    obtain ⟨q5, K⟩ := K
    refine ev_aald4 rfl (by decide) (by decide) q5 d_O_copy_30 ?_
    have b6 := ix_lt q5
    refine ev_astore (L' := [some (vR 0 0), some (vI a1), some (vI a2), some (vI a3), some (vI a4), some (vI a5), some (vR 10 (a1.toNatClampNeg)), some (vR 10 (a3.toNatClampNeg))]) d_O_copy_31 (by decide) rfl ?_
    refine ev_aload d_O_copy_33 rfl ?_
    obtain ⟨q7, K⟩ := K
    refine ev_callV (as := []) (st := []) (k := 10) (i := (a1.toNatClampNeg)) g_H_isLost ml_O_140 rfl rfl (by decide) b4 d_O_copy_35 rfl rfl (Nat.le_of_ble_eq_true rfl) rfl (Nat.le_of_ble_eq_true rfl) ?_
    refine f_H_isLost b4 q7 ?_
    show Ev none (d + 2) m_O_copy 38 [some (vR 0 0), some (vI a1), some (vI a2), some (vI a3), some (vI a4), some (vI a5), some (vR 10 (a1.toNatClampNeg)), some (vR 10 (a3.toNatClampNeg))] [vI (fn_H_isLost σ (a1.toNatClampNeg))] σ post
    refine ev_if_ne (tgt := 49) d_O_copy_38 rfl (fun h8 => ?_) (fun h8 => ?_)
    · replace K := K.2 h8
      refine ev_aload_n d_O_copy_49 rfl rfl ?_
      refine ev_iconst (v := 1) d_O_copy_50 (by decide) ?_
      refine ev_callV (as := [vI (1 : Int32)]) (st := []) (k := 0) (i := 0) g_O_found ml_O_144 rfl rfl (by decide) (by decide) d_O_copy_51 rfl rfl (Nat.le_of_ble_eq_true rfl) rfl (Nat.le_of_ble_eq_true rfl) ?_
      refine Ev.mono K ?_
      rintro _ s9 ⟨z10, rfl, K⟩
      show Ev none (d + 2) m_O_copy 54 [some (vR 0 0), some (vI a1), some (vI a2), some (vI a3), some (vI a4), some (vI a5), some (vR 10 (a1.toNatClampNeg)), some (vR 10 (a3.toNatClampNeg))] [vI z10] s9 post
      exact ev_ret (r := some (vI z10)) d_O_copy_54 rfl rfl K
    · replace K := K.1 h8
      refine ev_aload d_O_copy_41 rfl ?_
      obtain ⟨q11, K⟩ := K
      refine ev_callV (as := []) (st := []) (k := 10) (i := (a3.toNatClampNeg)) g_H_isLost ml_O_140 rfl rfl (by decide) b6 d_O_copy_43 rfl rfl (Nat.le_of_ble_eq_true rfl) rfl (Nat.le_of_ble_eq_true rfl) ?_
      refine f_H_isLost b6 q11 ?_
      show Ev none (d + 2) m_O_copy 46 [some (vR 0 0), some (vI a1), some (vI a2), some (vI a3), some (vI a4), some (vI a5), some (vR 10 (a1.toNatClampNeg)), some (vR 10 (a3.toNatClampNeg))] [vI (fn_H_isLost σ (a3.toNatClampNeg))] σ post
      refine ev_if_eq (tgt := 55) d_O_copy_46 rfl (fun h12 => ?_) (fun h12 => ?_)
      · replace K := K.1 h12
        refine ev_aload d_O_copy_55 rfl ?_
        refine ev_callV (as := []) (st := []) (k := 10) (i := (a1.toNatClampNeg)) g_H_form ml_O_287 rfl rfl (by decide) b4 d_O_copy_57 rfl rfl (Nat.le_of_ble_eq_true rfl) rfl (Nat.le_of_ble_eq_true rfl) ?_
        refine f_H_form b4 ?_
        show Ev none (d + 2) m_O_copy 60 [some (vR 0 0), some (vI a1), some (vI a2), some (vI a3), some (vI a4), some (vI a5), some (vR 10 (a1.toNatClampNeg)), some (vR 10 (a3.toNatClampNeg))] [vI (fn_H_form σ (a1.toNatClampNeg))] σ post
        refine ev_aload d_O_copy_60 rfl ?_
        refine ev_callV (as := []) (st := [vI (fn_H_form σ (a1.toNatClampNeg))]) (k := 10) (i := (a3.toNatClampNeg)) g_H_form ml_O_287 rfl rfl (by decide) b6 d_O_copy_62 rfl rfl (Nat.le_of_ble_eq_true rfl) rfl (Nat.le_of_ble_eq_true rfl) ?_
        refine f_H_form b6 ?_
        show Ev none (d + 2) m_O_copy 65 [some (vR 0 0), some (vI a1), some (vI a2), some (vI a3), some (vI a4), some (vI a5), some (vR 10 (a1.toNatClampNeg)), some (vR 10 (a3.toNatClampNeg))] [vI (fn_H_form σ (a3.toNatClampNeg)), vI (fn_H_form σ (a1.toNatClampNeg))] σ post
        refine ev_icmp_eq (tgt := 74) d_O_copy_65 rfl (fun h13 => ?_) (fun h13 => ?_)
        · replace K := K.1 h13
          refine ev_aload d_O_copy_74 rfl ?_
          refine ev_iload_n d_O_copy_76 rfl rfl ?_
          refine ev_iload d_O_copy_77 rfl ?_
          refine ev_callV (as := [vI a2, vI a5]) (st := []) (k := 10) (i := (a1.toNatClampNeg)) g_H_spans ml_O_290 rfl rfl (by decide) b4 d_O_copy_79 rfl rfl (Nat.le_of_ble_eq_true rfl) rfl (Nat.le_of_ble_eq_true rfl) ?_
          refine f_H_spans b4 ?_
          show Ev none (d + 2) m_O_copy 82 [some (vR 0 0), some (vI a1), some (vI a2), some (vI a3), some (vI a4), some (vI a5), some (vR 10 (a1.toNatClampNeg)), some (vR 10 (a3.toNatClampNeg))] [vI (bi (fp_H_spans σ (a1.toNatClampNeg) a2 a5))] σ post
          obtain ⟨w14, e15⟩ : ∃ w : Int32, w = bi ((fp_H_spans σ (a1.toNatClampNeg) a2 a5) ∧ (fp_H_spans σ (a3.toNatClampNeg) a4 a5)) := ⟨_, rfl⟩
          have J1 : w14 = 1 → Ev none (d + 2) m_O_copy 103 [some (vR 0 0), some (vI a1), some (vI a2), some (vI a3), some (vI a4), some (vI a5), some (vR 10 (a1.toNatClampNeg)), some (vR 10 (a3.toNatClampNeg))] [] σ post := by
            intro e151
            replace K := K.1 (bi_1.mp ((e15.symm).trans e151))
            refine ev_aload d_O_copy_103 rfl ?_
            refine ev_aload d_O_copy_105 rfl ?_
            refine ev_iload_n d_O_copy_107 rfl rfl ?_
            refine ev_iload d_O_copy_108 rfl ?_
            refine ev_iload d_O_copy_110 rfl ?_
            refine ev_callV (as := [vR 10 (a1.toNatClampNeg), vI a2, vI a4, vI a5]) (st := []) (k := 10) (i := (a3.toNatClampNeg)) g_H_takeFrom ml_O_293 rfl rfl (by decide) b6 d_O_copy_112 rfl rfl (Nat.le_of_ble_eq_true rfl) rfl (Nat.le_of_ble_eq_true rfl) ?_
            refine Ev.mono K ?_
            rintro _ s16 ⟨rfl, K⟩
            show Ev none (d + 2) m_O_copy 115 [some (vR 0 0), some (vI a1), some (vI a2), some (vI a3), some (vI a4), some (vI a5), some (vR 10 (a1.toNatClampNeg)), some (vR 10 (a3.toNatClampNeg))] [] s16 post
            refine ev_iconst (v := 1) d_O_copy_115 (by decide) ?_
            exact ev_ret (r := some (vI (1 : Int32))) d_O_copy_116 rfl rfl K
          have J0 : w14 = 0 → Ev none (d + 2) m_O_copy 97 [some (vR 0 0), some (vI a1), some (vI a2), some (vI a3), some (vI a4), some (vI a5), some (vR 10 (a1.toNatClampNeg)), some (vR 10 (a3.toNatClampNeg))] [] σ post := by
            intro e150
            replace K := K.2 (bi_0.mp ((e15.symm).trans e150))
            refine ev_aload_n d_O_copy_97 rfl rfl ?_
            refine ev_iconst (v := 2) d_O_copy_98 (by decide) ?_
            refine ev_callV (as := [vI (2 : Int32)]) (st := []) (k := 0) (i := 0) g_O_found ml_O_144 rfl rfl (by decide) (by decide) d_O_copy_99 rfl rfl (Nat.le_of_ble_eq_true rfl) rfl (Nat.le_of_ble_eq_true rfl) ?_
            refine Ev.mono K ?_
            rintro _ s17 ⟨z18, rfl, K⟩
            show Ev none (d + 2) m_O_copy 102 [some (vR 0 0), some (vI a1), some (vI a2), some (vI a3), some (vI a4), some (vI a5), some (vR 10 (a1.toNatClampNeg)), some (vR 10 (a3.toNatClampNeg))] [vI z18] s17 post
            exact ev_ret (r := some (vI z18)) d_O_copy_102 rfl rfl K
          clear K
          refine ev_ifb_eq (tgt := 97) d_O_copy_82 rfl (fun h19 => ?_) (fun h19 => ?_)
          · rw [b3f h19] at e15
            exact J0 e15
          · rw [b3t h19] at e15
            refine ev_aload d_O_copy_85 rfl ?_
            refine ev_iload d_O_copy_87 rfl ?_
            refine ev_iload d_O_copy_89 rfl ?_
            refine ev_callV (as := [vI a4, vI a5]) (st := []) (k := 10) (i := (a3.toNatClampNeg)) g_H_spans ml_O_290 rfl rfl (by decide) b6 d_O_copy_91 rfl rfl (Nat.le_of_ble_eq_true rfl) rfl (Nat.le_of_ble_eq_true rfl) ?_
            refine f_H_spans b6 ?_
            show Ev none (d + 2) m_O_copy 94 [some (vR 0 0), some (vI a1), some (vI a2), some (vI a3), some (vI a4), some (vI a5), some (vR 10 (a1.toNatClampNeg)), some (vR 10 (a3.toNatClampNeg))] [vI (bi (fp_H_spans σ (a3.toNatClampNeg) a4 a5))] σ post
            refine ev_ifb_ne (tgt := 103) d_O_copy_94 rfl (fun h20 => ?_) (fun h20 => ?_)
            · rw [bi_t h20] at e15
              exact J1 e15
            · rw [bi_f h20] at e15
              exact J0 e15
        · replace K := K.2 h13
          refine ev_aload_n d_O_copy_68 rfl rfl ?_
          refine ev_iconst (v := 4) d_O_copy_69 (by decide) ?_
          refine ev_callV (as := [vI (4 : Int32)]) (st := []) (k := 0) (i := 0) g_O_found ml_O_144 rfl rfl (by decide) (by decide) d_O_copy_70 rfl rfl (Nat.le_of_ble_eq_true rfl) rfl (Nat.le_of_ble_eq_true rfl) ?_
          refine Ev.mono K ?_
          rintro _ s21 ⟨z22, rfl, K⟩
          show Ev none (d + 2) m_O_copy 73 [some (vR 0 0), some (vI a1), some (vI a2), some (vI a3), some (vI a4), some (vI a5), some (vR 10 (a1.toNatClampNeg)), some (vR 10 (a3.toNatClampNeg))] [vI z22] s21 post
          exact ev_ret (r := some (vI z22)) d_O_copy_73 rfl rfl K
      · replace K := K.2 h12
        refine ev_aload_n d_O_copy_49 rfl rfl ?_
        refine ev_iconst (v := 1) d_O_copy_50 (by decide) ?_
        refine ev_callV (as := [vI (1 : Int32)]) (st := []) (k := 0) (i := 0) g_O_found ml_O_144 rfl rfl (by decide) (by decide) d_O_copy_51 rfl rfl (Nat.le_of_ble_eq_true rfl) rfl (Nat.le_of_ble_eq_true rfl) ?_
        refine Ev.mono K ?_
        rintro _ s23 ⟨z24, rfl, K⟩
        show Ev none (d + 2) m_O_copy 54 [some (vR 0 0), some (vI a1), some (vI a2), some (vI a3), some (vI a4), some (vI a5), some (vR 10 (a1.toNatClampNeg)), some (vR 10 (a3.toNatClampNeg))] [vI z24] s23 post
        exact ev_ret (r := some (vI z24)) d_O_copy_54 rfl rfl K
  have J0 : w1 = 0 → Ev none (d + 2) m_O_copy 14 [some (vR 0 0), some (vI a1), some (vI a2), some (vI a3), some (vI a4), some (vI a5), none, none] [] σ post := by
    intro e20
    replace K := K.2 (bi_0.mp ((e2.symm).trans e20))
    refine ev_bipush (v := -2) d_O_copy_14 (by decide) ?_
    exact ev_ret (r := some (vI (-2 : Int32))) d_O_copy_16 rfl rfl K
  clear K
  refine ev_ifb_eq (tgt := 14) d_O_copy_4 rfl (fun h25 => ?_) (fun h25 => ?_)
  · rw [b3f h25] at e2
    exact J0 e2
  · rw [b3t h25] at e2
    refine ev_iload_n d_O_copy_7 rfl rfl ?_
    refine ev_callS (as := [vI a3]) (st := []) g_O_isSheet ml_O_137 d_O_copy_8 rfl rfl (Nat.le_of_ble_eq_true rfl) rfl (Nat.le_of_ble_eq_true rfl) ?_
    refine f_O_isSheet  ?_
    show Ev none (d + 2) m_O_copy 11 [some (vR 0 0), some (vI a1), some (vI a2), some (vI a3), some (vI a4), some (vI a5), none, none] [vI (bi (fp_O_isSheet σ a3))] σ post
    refine ev_ifb_ne (tgt := 17) d_O_copy_11 rfl (fun h26 => ?_) (fun h26 => ?_)
    · rw [bi_t h26] at e2
      exact J1 e2
    · rw [bi_f h26] at e2
      exact J0 e2
set_option maxRecDepth 4000 in
theorem sg_O_get_0 {d : Nat} {σ : ST} {a1 : Int32} {a2 : Int32} {a3 : Int32} {post : Option AV → ST → Prop} (K : (((fp_O_isSheet σ a1) ∧ (fp_O_isForm σ a2)) → ((vp_in a1 4) ∧ ((fs_O_findingAt σ (a1.toNatClampNeg) a2 a3) ∧ ((((fn_O_findingAt σ (a1.toNatClampNeg) a2 a3) = 0) → ((vp_in a1 4) ∧ ((fs_H_item σ (a1.toNatClampNeg) a3) ∧ (post (some (vI (fn_H_item σ (a1.toNatClampNeg) a3))) σ)))) ∧ (¬ ((fn_O_findingAt σ (a1.toNatClampNeg) a2 a3) = 0) → (post (some (vI (-2147483648 : Int32))) (setI σ 0 0 11 (fn_O_findingAt σ (a1.toNatClampNeg) a2 a3)))))))) ∧ (¬ ((fp_O_isSheet σ a1) ∧ (fp_O_isForm σ a2)) → (post (some (vI (-2147483648 : Int32))) σ))) : Ev none (d + 2) m_O_get 0 [some (vR 0 0), some (vI a1), some (vI a2), some (vI a3), none] [] σ post := by
  refine ev_iload_n d_O_get_0 rfl rfl ?_
  refine ev_callS (as := [vI a1]) (st := []) g_O_isSheet ml_O_137 d_O_get_1 rfl rfl (Nat.le_of_ble_eq_true rfl) rfl (Nat.le_of_ble_eq_true rfl) ?_
  refine f_O_isSheet  ?_
  show Ev none (d + 2) m_O_get 4 [some (vR 0 0), some (vI a1), some (vI a2), some (vI a3), none] [vI (bi (fp_O_isSheet σ a1))] σ post
  obtain ⟨w1, e2⟩ : ∃ w : Int32, w = bi ((fp_O_isSheet σ a1) ∧ (fp_O_isForm σ a2)) := ⟨_, rfl⟩
  have J1 : w1 = 1 → Ev none (d + 2) m_O_get 18 [some (vR 0 0), some (vI a1), some (vI a2), some (vI a3), none] [] σ post := by
    intro e21
    replace K := K.1 (bi_1.mp ((e2.symm).trans e21))
    refine ev_aload_n d_O_get_18 rfl rfl ?_
    refine ev_getR gf_O_71 rfl (by decide) d_O_get_19 ?_
    refine ev_iload_n d_O_get_22 rfl rfl ?_
    obtain ⟨q3, K⟩ := K
    refine ev_aald4 rfl (by decide) (by decide) q3 d_O_get_23 ?_
    have b4 := ix_lt q3
    refine ev_iload_n d_O_get_24 rfl rfl ?_
    refine ev_iload_n d_O_get_25 rfl rfl ?_
    obtain ⟨q5, K⟩ := K
    refine ev_callS (as := [vR 10 (a1.toNatClampNeg), vI a2, vI a3]) (st := []) g_O_findingAt ml_O_279 d_O_get_26 rfl rfl (Nat.le_of_ble_eq_true rfl) rfl (Nat.le_of_ble_eq_true rfl) ?_
    refine f_O_findingAt b4 q5 ?_
    show Ev none (d + 2) m_O_get 29 [some (vR 0 0), some (vI a1), some (vI a2), some (vI a3), none] [vI (fn_O_findingAt σ (a1.toNatClampNeg) a2 a3)] σ post
    refine ev_istore (L' := [some (vR 0 0), some (vI a1), some (vI a2), some (vI a3), some (vI (fn_O_findingAt σ (a1.toNatClampNeg) a2 a3))]) d_O_get_29 (by decide) rfl ?_
    refine ev_iload d_O_get_31 rfl ?_
    refine ev_if_eq (tgt := 46) d_O_get_33 rfl (fun h6 => ?_) (fun h6 => ?_)
    · replace K := K.1 h6
      refine ev_aload_n d_O_get_46 rfl rfl ?_
      refine ev_getR gf_O_71 rfl (by decide) d_O_get_47 ?_
      refine ev_iload_n d_O_get_50 rfl rfl ?_
      obtain ⟨q7, K⟩ := K
      refine ev_aald4 rfl (by decide) (by decide) q7 d_O_get_51 ?_
      have b8 := ix_lt q7
      refine ev_iload_n d_O_get_52 rfl rfl ?_
      obtain ⟨q9, K⟩ := K
      refine ev_callV (as := [vI a3]) (st := []) (k := 10) (i := (a1.toNatClampNeg)) g_H_item ml_O_153 rfl rfl (by decide) b8 d_O_get_53 rfl rfl (Nat.le_of_ble_eq_true rfl) rfl (Nat.le_of_ble_eq_true rfl) ?_
      refine f_H_item b8 q9 ?_
      show Ev none (d + 2) m_O_get 56 [some (vR 0 0), some (vI a1), some (vI a2), some (vI a3), some (vI (fn_O_findingAt σ (a1.toNatClampNeg) a2 a3))] [vI (fn_H_item σ (a1.toNatClampNeg) a3)] σ post
      exact ev_ret (r := some (vI (fn_H_item σ (a1.toNatClampNeg) a3))) d_O_get_56 rfl rfl K
    · replace K := K.2 h6
      refine ev_aload_n d_O_get_36 rfl rfl ?_
      refine ev_iload d_O_get_37 rfl ?_
      refine ev_putI gp_O_83 rfl (by decide) d_O_get_39 ?_
      refine ev_ldcw d_O_get_42 cn_O_286 ?_
      exact ev_ret (r := some (vI (-2147483648 : Int32))) d_O_get_45 rfl rfl K
  have J0 : w1 = 0 → Ev none (d + 2) m_O_get 14 [some (vR 0 0), some (vI a1), some (vI a2), some (vI a3), none] [] σ post := by
    intro e20
    replace K := K.2 (bi_0.mp ((e2.symm).trans e20))
    refine ev_ldcw d_O_get_14 cn_O_286 ?_
    exact ev_ret (r := some (vI (-2147483648 : Int32))) d_O_get_17 rfl rfl K
  clear K
  refine ev_ifb_eq (tgt := 14) d_O_get_4 rfl (fun h10 => ?_) (fun h10 => ?_)
  · rw [b3f h10] at e2
    exact J0 e2
  · rw [b3t h10] at e2
    refine ev_iload_n d_O_get_7 rfl rfl ?_
    refine ev_callS (as := [vI a2]) (st := []) g_O_isForm ml_O_270 d_O_get_8 rfl rfl (Nat.le_of_ble_eq_true rfl) rfl (Nat.le_of_ble_eq_true rfl) ?_
    refine f_O_isForm  ?_
    show Ev none (d + 2) m_O_get 11 [some (vR 0 0), some (vI a1), some (vI a2), some (vI a3), none] [vI (bi (fp_O_isForm σ a2))] σ post
    refine ev_ifb_ne (tgt := 18) d_O_get_11 rfl (fun h11 => ?_) (fun h11 => ?_)
    · rw [bi_t h11] at e2
      exact J1 e2
    · rw [bi_f h11] at e2
      exact J0 e2
set_option maxRecDepth 4000 in
theorem sg_O_lay_0 {d : Nat} {σ : ST} {a1 : Int32} {a2 : Int32} {a3 : Int32} {a4 : Int32} {post : Option AV → ST → Prop} (K : (((fp_O_isSheet σ a1) ∧ (fp_O_isForm σ a2)) → ((vp_in a1 4) ∧ ((fs_O_findingAt σ (a1.toNatClampNeg) a2 a3) ∧ ((((fn_O_findingAt σ (a1.toNatClampNeg) a2 a3) = 0) → ((vp_in a1 4) ∧ (Ev none (d + 1) m_H_put 0 [some (vR 10 (a1.toNatClampNeg)), some (vI a3), some (vI a4)] [] σ (fun r s9 => r = none ∧ (post (some (vI (1 : Int32))) s9))))) ∧ (¬ ((fn_O_findingAt σ (a1.toNatClampNeg) a2 a3) = 0) → (Ev none (d + 1) m_O_found 0 [some (vR 0 0), some (vI (fn_O_findingAt σ (a1.toNatClampNeg) a2 a3))] [] σ (fun r s10 => ∃ z11 : Int32, r = some (vI z11) ∧ (post (some (vI z11)) s10)))))))) ∧ (¬ ((fp_O_isSheet σ a1) ∧ (fp_O_isForm σ a2)) → (post (some (vI (-2 : Int32))) σ))) : Ev none (d + 2) m_O_lay 0 [some (vR 0 0), some (vI a1), some (vI a2), some (vI a3), some (vI a4), none] [] σ post := by
  refine ev_iload_n d_O_lay_0 rfl rfl ?_
  refine ev_callS (as := [vI a1]) (st := []) g_O_isSheet ml_O_137 d_O_lay_1 rfl rfl (Nat.le_of_ble_eq_true rfl) rfl (Nat.le_of_ble_eq_true rfl) ?_
  refine f_O_isSheet  ?_
  show Ev none (d + 2) m_O_lay 4 [some (vR 0 0), some (vI a1), some (vI a2), some (vI a3), some (vI a4), none] [vI (bi (fp_O_isSheet σ a1))] σ post
  obtain ⟨w1, e2⟩ : ∃ w : Int32, w = bi ((fp_O_isSheet σ a1) ∧ (fp_O_isForm σ a2)) := ⟨_, rfl⟩
  have J1 : w1 = 1 → Ev none (d + 2) m_O_lay 17 [some (vR 0 0), some (vI a1), some (vI a2), some (vI a3), some (vI a4), none] [] σ post := by
    intro e21
    replace K := K.1 (bi_1.mp ((e2.symm).trans e21))
    refine ev_aload_n d_O_lay_17 rfl rfl ?_
    refine ev_getR gf_O_71 rfl (by decide) d_O_lay_18 ?_
    refine ev_iload_n d_O_lay_21 rfl rfl ?_
    obtain ⟨q3, K⟩ := K
    refine ev_aald4 rfl (by decide) (by decide) q3 d_O_lay_22 ?_
    have b4 := ix_lt q3
    refine ev_iload_n d_O_lay_23 rfl rfl ?_
    refine ev_iload_n d_O_lay_24 rfl rfl ?_
    obtain ⟨q5, K⟩ := K
    refine ev_callS (as := [vR 10 (a1.toNatClampNeg), vI a2, vI a3]) (st := []) g_O_findingAt ml_O_279 d_O_lay_25 rfl rfl (Nat.le_of_ble_eq_true rfl) rfl (Nat.le_of_ble_eq_true rfl) ?_
    refine f_O_findingAt b4 q5 ?_
    show Ev none (d + 2) m_O_lay 28 [some (vR 0 0), some (vI a1), some (vI a2), some (vI a3), some (vI a4), none] [vI (fn_O_findingAt σ (a1.toNatClampNeg) a2 a3)] σ post
    refine ev_istore (L' := [some (vR 0 0), some (vI a1), some (vI a2), some (vI a3), some (vI a4), some (vI (fn_O_findingAt σ (a1.toNatClampNeg) a2 a3))]) d_O_lay_28 (by decide) rfl ?_
    refine ev_iload d_O_lay_30 rfl ?_
    refine ev_if_eq (tgt := 42) d_O_lay_32 rfl (fun h6 => ?_) (fun h6 => ?_)
    · replace K := K.1 h6
      refine ev_aload_n d_O_lay_42 rfl rfl ?_
      refine ev_getR gf_O_71 rfl (by decide) d_O_lay_43 ?_
      refine ev_iload_n d_O_lay_46 rfl rfl ?_
      obtain ⟨q7, K⟩ := K
      refine ev_aald4 rfl (by decide) (by decide) q7 d_O_lay_47 ?_
      have b8 := ix_lt q7
      refine ev_iload_n d_O_lay_48 rfl rfl ?_
      refine ev_iload d_O_lay_49 rfl ?_
      refine ev_callV (as := [vI a3, vI a4]) (st := []) (k := 10) (i := (a1.toNatClampNeg)) g_H_put ml_O_283 rfl rfl (by decide) b8 d_O_lay_51 rfl rfl (Nat.le_of_ble_eq_true rfl) rfl (Nat.le_of_ble_eq_true rfl) ?_
      refine Ev.mono K ?_
      rintro _ s9 ⟨rfl, K⟩
      show Ev none (d + 2) m_O_lay 54 [some (vR 0 0), some (vI a1), some (vI a2), some (vI a3), some (vI a4), some (vI (fn_O_findingAt σ (a1.toNatClampNeg) a2 a3))] [] s9 post
      refine ev_iconst (v := 1) d_O_lay_54 (by decide) ?_
      exact ev_ret (r := some (vI (1 : Int32))) d_O_lay_55 rfl rfl K
    · replace K := K.2 h6
      refine ev_aload_n d_O_lay_35 rfl rfl ?_
      refine ev_iload d_O_lay_36 rfl ?_
      refine ev_callV (as := [vI (fn_O_findingAt σ (a1.toNatClampNeg) a2 a3)]) (st := []) (k := 0) (i := 0) g_O_found ml_O_144 rfl rfl (by decide) (by decide) d_O_lay_38 rfl rfl (Nat.le_of_ble_eq_true rfl) rfl (Nat.le_of_ble_eq_true rfl) ?_
      refine Ev.mono K ?_
      rintro _ s10 ⟨z11, rfl, K⟩
      show Ev none (d + 2) m_O_lay 41 [some (vR 0 0), some (vI a1), some (vI a2), some (vI a3), some (vI a4), some (vI (fn_O_findingAt σ (a1.toNatClampNeg) a2 a3))] [vI z11] s10 post
      exact ev_ret (r := some (vI z11)) d_O_lay_41 rfl rfl K
  have J0 : w1 = 0 → Ev none (d + 2) m_O_lay 14 [some (vR 0 0), some (vI a1), some (vI a2), some (vI a3), some (vI a4), none] [] σ post := by
    intro e20
    replace K := K.2 (bi_0.mp ((e2.symm).trans e20))
    refine ev_bipush (v := -2) d_O_lay_14 (by decide) ?_
    exact ev_ret (r := some (vI (-2 : Int32))) d_O_lay_16 rfl rfl K
  clear K
  refine ev_ifb_eq (tgt := 14) d_O_lay_4 rfl (fun h12 => ?_) (fun h12 => ?_)
  · rw [b3f h12] at e2
    exact J0 e2
  · rw [b3t h12] at e2
    refine ev_iload_n d_O_lay_7 rfl rfl ?_
    refine ev_callS (as := [vI a2]) (st := []) g_O_isForm ml_O_270 d_O_lay_8 rfl rfl (Nat.le_of_ble_eq_true rfl) rfl (Nat.le_of_ble_eq_true rfl) ?_
    refine f_O_isForm  ?_
    show Ev none (d + 2) m_O_lay 11 [some (vR 0 0), some (vI a1), some (vI a2), some (vI a3), some (vI a4), none] [vI (bi (fp_O_isForm σ a2))] σ post
    refine ev_ifb_ne (tgt := 17) d_O_lay_11 rfl (fun h13 => ?_) (fun h13 => ?_)
    · rw [bi_t h13] at e2
      exact J1 e2
    · rw [bi_f h13] at e2
      exact J0 e2
set_option maxRecDepth 4000 in
theorem sg_O_like_0 {d : Nat} {σ : ST} {a1 : Int32} {a2 : Int32} {a3 : Int32} {post : Option AV → ST → Prop} (K : ((fp_O_isReader σ a1) → (((fp_O_within σ a2 (0 : Int32) (7 : Int32)) → (((fp_O_within σ a3 (0 : Int32) (1 : Int32)) → ((fs_C_person σ a1) ∧ (∀ z5 : Int32, z5 = (bi (a3 = (1 : Int32))) → (Ev none (d + 1) m_R_changeLike 0 [some (vR 3 (fx_C_person σ a1)), some (vI a2), some (vI z5), none] [] σ (fun r s6 => ∃ z7 : Int32, r = some (vI z7) ∧ (post (some (vI (fn_O_asNumber s6 z7))) s6)))))) ∧ (¬ (fp_O_within σ a3 (0 : Int32) (1 : Int32)) → (post (some (vI (-2 : Int32))) σ)))) ∧ (¬ (fp_O_within σ a2 (0 : Int32) (7 : Int32)) → (post (some (vI (-2 : Int32))) σ)))) ∧ (¬ (fp_O_isReader σ a1) → (post (some (vI (-2 : Int32))) σ))) : Ev none (d + 2) m_O_like 0 [some (vR 0 0), some (vI a1), some (vI a2), some (vI a3)] [] σ post := by
  refine ev_iload_n d_O_like_0 rfl rfl ?_
  refine ev_callS (as := [vI a1]) (st := []) g_O_isReader ml_O_121 d_O_like_1 rfl rfl (Nat.le_of_ble_eq_true rfl) rfl (Nat.le_of_ble_eq_true rfl) ?_
  refine f_O_isReader  ?_
  show Ev none (d + 2) m_O_like 4 [some (vR 0 0), some (vI a1), some (vI a2), some (vI a3)] [vI (bi (fp_O_isReader σ a1))] σ post
  refine ev_ifb_eq (tgt := 26) d_O_like_4 rfl (fun h1 => ?_) (fun h1 => ?_)
  · replace K := K.2 h1
    refine ev_bipush (v := -2) d_O_like_26 (by decide) ?_
    exact ev_ret (r := some (vI (-2 : Int32))) d_O_like_28 rfl rfl K
  · replace K := K.1 h1
    refine ev_iload_n d_O_like_7 rfl rfl ?_
    refine ev_iconst (v := 0) d_O_like_8 (by decide) ?_
    refine ev_bipush (v := 7) d_O_like_9 (by decide) ?_
    refine ev_callS (as := [vI a2, vI (0 : Int32), vI (7 : Int32)]) (st := []) g_O_within ml_O_86 d_O_like_11 rfl rfl (Nat.le_of_ble_eq_true rfl) rfl (Nat.le_of_ble_eq_true rfl) ?_
    refine f_O_within  ?_
    show Ev none (d + 2) m_O_like 14 [some (vR 0 0), some (vI a1), some (vI a2), some (vI a3)] [vI (bi (fp_O_within σ a2 (0 : Int32) (7 : Int32)))] σ post
    refine ev_ifb_eq (tgt := 26) d_O_like_14 rfl (fun h2 => ?_) (fun h2 => ?_)
    · replace K := K.2 h2
      refine ev_bipush (v := -2) d_O_like_26 (by decide) ?_
      exact ev_ret (r := some (vI (-2 : Int32))) d_O_like_28 rfl rfl K
    · replace K := K.1 h2
      refine ev_iload_n d_O_like_17 rfl rfl ?_
      refine ev_iconst (v := 0) d_O_like_18 (by decide) ?_
      refine ev_iconst (v := 1) d_O_like_19 (by decide) ?_
      refine ev_callS (as := [vI a3, vI (0 : Int32), vI (1 : Int32)]) (st := []) g_O_within ml_O_86 d_O_like_20 rfl rfl (Nat.le_of_ble_eq_true rfl) rfl (Nat.le_of_ble_eq_true rfl) ?_
      refine f_O_within  ?_
      show Ev none (d + 2) m_O_like 23 [some (vR 0 0), some (vI a1), some (vI a2), some (vI a3)] [vI (bi (fp_O_within σ a3 (0 : Int32) (1 : Int32)))] σ post
      refine ev_ifb_ne (tgt := 29) d_O_like_23 rfl (fun h3 => ?_) (fun h3 => ?_)
      · replace K := K.1 h3
        refine ev_aload_n d_O_like_29 rfl rfl ?_
        refine ev_getR gf_O_21 rfl (by decide) d_O_like_30 ?_
        refine ev_iload_n d_O_like_33 rfl rfl ?_
        obtain ⟨q4, K⟩ := K
        refine ev_callV (as := [vI a1]) (st := []) (k := 2) (i := 0) g_C_person ml_O_127 rfl rfl (by decide) (by decide) d_O_like_34 rfl rfl (Nat.le_of_ble_eq_true rfl) rfl (Nat.le_of_ble_eq_true rfl) ?_
        refine f_C_person q4 ?_
        show Ev none (d + 2) m_O_like 37 [some (vR 0 0), some (vI a1), some (vI a2), some (vI a3)] [vR 3 (fx_C_person σ a1)] σ post
        refine ev_iload_n d_O_like_37 rfl rfl ?_
        refine ev_iload_n d_O_like_38 rfl rfl ?_
        refine ev_iconst (v := 1) d_O_like_39 (by decide) ?_
        obtain ⟨z5, ez5⟩ : ∃ z : Int32, z = (bi (a3 = (1 : Int32))) := ⟨_, rfl⟩
        replace K := K z5 ez5
        have JJ : Ev none (d + 2) m_O_like 48 [none, none, none, none] [vI z5, vI a2, vR 3 (fx_C_person σ a1)] σ post := by
          refine ev_callV (as := [vI a2, vI z5]) (st := []) (k := 3) (i := (fx_C_person σ a1)) g_R_changeLike ml_O_156 rfl rfl (by decide) (fb_C_person q4) d_O_like_48 rfl rfl (Nat.le_of_ble_eq_true rfl) rfl (Nat.le_of_ble_eq_true rfl) ?_
          refine Ev.mono K ?_
          rintro _ s6 ⟨z7, rfl, K⟩
          show Ev none (d + 2) m_O_like 51 [none, none, none, none] [vI z7] s6 post
          refine ev_callS (as := [vI z7]) (st := []) g_O_asNumber ml_O_117 d_O_like_51 rfl rfl (Nat.le_of_ble_eq_true rfl) rfl (Nat.le_of_ble_eq_true rfl) ?_
          refine f_O_asNumber  ?_
          show Ev none (d + 2) m_O_like 54 [none, none, none, none] [vI (fn_O_asNumber s6 z7)] s6 post
          exact ev_ret (r := some (vI (fn_O_asNumber s6 z7))) d_O_like_54 rfl rfl K
        clear K
        refine ev_icmp_ne (tgt := 47) d_O_like_40 rfl (fun h8 => ?_) (fun h8 => ?_)
        · rw [bi_f h8] at ez5
          refine ev_iconst (v := 0) d_O_like_47 (by decide) ?_
          subst ez5
          exact Ev.wk (lsub_sk (lsub_sk (lsub_sk (lsub_sk (lsub_nil))))) JJ
        · rw [bi_t h8] at ez5
          refine ev_iconst (v := 1) d_O_like_43 (by decide) ?_
          refine ev_goto (tgt := 48) d_O_like_44 rfl ?_
          subst ez5
          exact Ev.wk (lsub_sk (lsub_sk (lsub_sk (lsub_sk (lsub_nil))))) JJ
      · replace K := K.2 h3
        refine ev_bipush (v := -2) d_O_like_26 (by decide) ?_
        exact ev_ret (r := some (vI (-2 : Int32))) d_O_like_28 rfl rfl K
set_option maxRecDepth 4000 in
theorem sg_O_lose_0 {d : Nat} {σ : ST} {a1 : Int32} {post : Option AV → ST → Prop} (K : ((fp_O_isSheet σ a1) → ((vp_in a1 4) ∧ ((fs_H_isLost σ (a1.toNatClampNeg)) ∧ ((((fn_H_isLost σ (a1.toNatClampNeg)) = 0) → ((vp_in a1 4) ∧ ((vp_in a1 4) ∧ (Ev none (d + 1) m_H_drop 0 [some (vR 10 (a1.toNatClampNeg))] [] σ (fun r s10 => r = none ∧ (post (some (vI (fn_H_size σ (a1.toNatClampNeg)))) s10)))))) ∧ (¬ ((fn_H_isLost σ (a1.toNatClampNeg)) = 0) → (Ev none (d + 1) m_O_found 0 [some (vR 0 0), some (vI (1 : Int32))] [] σ (fun r s11 => ∃ z12 : Int32, r = some (vI z12) ∧ (post (some (vI z12)) s11)))))))) ∧ (¬ (fp_O_isSheet σ a1) → (post (some (vI (-2 : Int32))) σ))) : Ev none (d + 2) m_O_lose 0 [some (vR 0 0), some (vI a1), none] [] σ post := by
  refine ev_iload_n d_O_lose_0 rfl rfl ?_
  refine ev_callS (as := [vI a1]) (st := []) g_O_isSheet ml_O_137 d_O_lose_1 rfl rfl (Nat.le_of_ble_eq_true rfl) rfl (Nat.le_of_ble_eq_true rfl) ?_
  refine f_O_isSheet  ?_
  show Ev none (d + 2) m_O_lose 4 [some (vR 0 0), some (vI a1), none] [vI (bi (fp_O_isSheet σ a1))] σ post
  refine ev_ifb_ne (tgt := 10) d_O_lose_4 rfl (fun h1 => ?_) (fun h1 => ?_)
  · replace K := K.1 h1
    refine ev_aload_n d_O_lose_10 rfl rfl ?_
    refine ev_getR gf_O_71 rfl (by decide) d_O_lose_11 ?_
    refine ev_iload_n d_O_lose_14 rfl rfl ?_
    obtain ⟨q2, K⟩ := K
    refine ev_aald4 rfl (by decide) (by decide) q2 d_O_lose_15 ?_
    have b3 := ix_lt q2
    obtain ⟨q4, K⟩ := K
    refine ev_callV (as := []) (st := []) (k := 10) (i := (a1.toNatClampNeg)) g_H_isLost ml_O_140 rfl rfl (by decide) b3 d_O_lose_16 rfl rfl (Nat.le_of_ble_eq_true rfl) rfl (Nat.le_of_ble_eq_true rfl) ?_
    refine f_H_isLost b3 q4 ?_
    show Ev none (d + 2) m_O_lose 19 [some (vR 0 0), some (vI a1), none] [vI (fn_H_isLost σ (a1.toNatClampNeg))] σ post
    refine ev_if_eq (tgt := 28) d_O_lose_19 rfl (fun h5 => ?_) (fun h5 => ?_)
    · replace K := K.1 h5
      refine ev_aload_n d_O_lose_28 rfl rfl ?_
      refine ev_getR gf_O_71 rfl (by decide) d_O_lose_29 ?_
      refine ev_iload_n d_O_lose_32 rfl rfl ?_
      obtain ⟨q6, K⟩ := K
      refine ev_aald4 rfl (by decide) (by decide) q6 d_O_lose_33 ?_
      have b7 := ix_lt q6
      refine ev_callV (as := []) (st := []) (k := 10) (i := (a1.toNatClampNeg)) g_H_size ml_O_147 rfl rfl (by decide) b7 d_O_lose_34 rfl rfl (Nat.le_of_ble_eq_true rfl) rfl (Nat.le_of_ble_eq_true rfl) ?_
      refine f_H_size b7 ?_
      show Ev none (d + 2) m_O_lose 37 [some (vR 0 0), some (vI a1), none] [vI (fn_H_size σ (a1.toNatClampNeg))] σ post
      refine ev_istore_n (L' := [some (vR 0 0), some (vI a1), some (vI (fn_H_size σ (a1.toNatClampNeg)))]) d_O_lose_37 rfl (by decide) rfl ?_
      refine ev_aload_n d_O_lose_38 rfl rfl ?_
      refine ev_getR gf_O_71 rfl (by decide) d_O_lose_39 ?_
      refine ev_iload_n d_O_lose_42 rfl rfl ?_
      obtain ⟨q8, K⟩ := K
      refine ev_aald4 rfl (by decide) (by decide) q8 d_O_lose_43 ?_
      have b9 := ix_lt q8
      refine ev_callV (as := []) (st := []) (k := 10) (i := (a1.toNatClampNeg)) g_H_drop ml_O_276 rfl rfl (by decide) b9 d_O_lose_44 rfl rfl (Nat.le_of_ble_eq_true rfl) rfl (Nat.le_of_ble_eq_true rfl) ?_
      refine Ev.mono K ?_
      rintro _ s10 ⟨rfl, K⟩
      show Ev none (d + 2) m_O_lose 47 [some (vR 0 0), some (vI a1), some (vI (fn_H_size σ (a1.toNatClampNeg)))] [] s10 post
      refine ev_iload_n d_O_lose_47 rfl rfl ?_
      exact ev_ret (r := some (vI (fn_H_size σ (a1.toNatClampNeg)))) d_O_lose_48 rfl rfl K
    · replace K := K.2 h5
      refine ev_aload_n d_O_lose_22 rfl rfl ?_
      refine ev_iconst (v := 1) d_O_lose_23 (by decide) ?_
      refine ev_callV (as := [vI (1 : Int32)]) (st := []) (k := 0) (i := 0) g_O_found ml_O_144 rfl rfl (by decide) (by decide) d_O_lose_24 rfl rfl (Nat.le_of_ble_eq_true rfl) rfl (Nat.le_of_ble_eq_true rfl) ?_
      refine Ev.mono K ?_
      rintro _ s11 ⟨z12, rfl, K⟩
      show Ev none (d + 2) m_O_lose 27 [some (vR 0 0), some (vI a1), none] [vI z12] s11 post
      exact ev_ret (r := some (vI z12)) d_O_lose_27 rfl rfl K
  · replace K := K.2 h1
    refine ev_bipush (v := -2) d_O_lose_7 (by decide) ?_
    exact ev_ret (r := some (vI (-2 : Int32))) d_O_lose_9 rfl rfl K
set_option maxRecDepth 4000 in
theorem sg_O_pace_0 {d : Nat} {σ : ST} {a1 : Int32} {a2 : Int32} {a3 : Int32} {post : Option AV → ST → Prop} (K : (((fp_O_isReader σ a1) ∧ ((fp_O_isKind σ a2) ∧ (fp_O_within σ a3 (1 : Int32) (9 : Int32)))) → ((fs_C_person σ a1) ∧ (Ev none (d + 1) m_R_changePace 0 [some (vR 3 (fx_C_person σ a1)), some (vI a2), some (vI a3), none] [] σ (fun r s4 => ∃ z5 : Int32, r = some (vI z5) ∧ (post (some (vI z5)) s4))))) ∧ (¬ ((fp_O_isReader σ a1) ∧ ((fp_O_isKind σ a2) ∧ (fp_O_within σ a3 (1 : Int32) (9 : Int32)))) → (post (some (vI (-2 : Int32))) σ))) : Ev none (d + 2) m_O_pace 0 [some (vR 0 0), some (vI a1), some (vI a2), some (vI a3)] [] σ post := by
  refine ev_iload_n d_O_pace_0 rfl rfl ?_
  refine ev_callS (as := [vI a1]) (st := []) g_O_isReader ml_O_121 d_O_pace_1 rfl rfl (Nat.le_of_ble_eq_true rfl) rfl (Nat.le_of_ble_eq_true rfl) ?_
  refine f_O_isReader  ?_
  show Ev none (d + 2) m_O_pace 4 [some (vR 0 0), some (vI a1), some (vI a2), some (vI a3)] [vI (bi (fp_O_isReader σ a1))] σ post
  obtain ⟨w1, e2⟩ : ∃ w : Int32, w = bi ((fp_O_isReader σ a1) ∧ ((fp_O_isKind σ a2) ∧ (fp_O_within σ a3 (1 : Int32) (9 : Int32)))) := ⟨_, rfl⟩
  have J1 : w1 = 1 → Ev none (d + 2) m_O_pace 27 [some (vR 0 0), some (vI a1), some (vI a2), some (vI a3)] [] σ post := by
    intro e21
    replace K := K.1 (bi_1.mp ((e2.symm).trans e21))
    refine ev_aload_n d_O_pace_27 rfl rfl ?_
    refine ev_getR gf_O_21 rfl (by decide) d_O_pace_28 ?_
    refine ev_iload_n d_O_pace_31 rfl rfl ?_
    obtain ⟨q3, K⟩ := K
    refine ev_callV (as := [vI a1]) (st := []) (k := 2) (i := 0) g_C_person ml_O_127 rfl rfl (by decide) (by decide) d_O_pace_32 rfl rfl (Nat.le_of_ble_eq_true rfl) rfl (Nat.le_of_ble_eq_true rfl) ?_
    refine f_C_person q3 ?_
    show Ev none (d + 2) m_O_pace 35 [some (vR 0 0), some (vI a1), some (vI a2), some (vI a3)] [vR 3 (fx_C_person σ a1)] σ post
    refine ev_iload_n d_O_pace_35 rfl rfl ?_
    refine ev_iload_n d_O_pace_36 rfl rfl ?_
    refine ev_callV (as := [vI a2, vI a3]) (st := []) (k := 3) (i := (fx_C_person σ a1)) g_R_changePace ml_O_131 rfl rfl (by decide) (fb_C_person q3) d_O_pace_37 rfl rfl (Nat.le_of_ble_eq_true rfl) rfl (Nat.le_of_ble_eq_true rfl) ?_
    refine Ev.mono K ?_
    rintro _ s4 ⟨z5, rfl, K⟩
    show Ev none (d + 2) m_O_pace 40 [some (vR 0 0), some (vI a1), some (vI a2), some (vI a3)] [vI z5] s4 post
    exact ev_ret (r := some (vI z5)) d_O_pace_40 rfl rfl K
  have J0 : w1 = 0 → Ev none (d + 2) m_O_pace 24 [some (vR 0 0), some (vI a1), some (vI a2), some (vI a3)] [] σ post := by
    intro e20
    replace K := K.2 (bi_0.mp ((e2.symm).trans e20))
    refine ev_bipush (v := -2) d_O_pace_24 (by decide) ?_
    exact ev_ret (r := some (vI (-2 : Int32))) d_O_pace_26 rfl rfl K
  clear K
  refine ev_ifb_eq (tgt := 24) d_O_pace_4 rfl (fun h6 => ?_) (fun h6 => ?_)
  · rw [b3f h6] at e2
    exact J0 e2
  · rw [b3t h6] at e2
    refine ev_iload_n d_O_pace_7 rfl rfl ?_
    refine ev_callS (as := [vI a2]) (st := []) g_O_isKind ml_O_124 d_O_pace_8 rfl rfl (Nat.le_of_ble_eq_true rfl) rfl (Nat.le_of_ble_eq_true rfl) ?_
    refine f_O_isKind  ?_
    show Ev none (d + 2) m_O_pace 11 [some (vR 0 0), some (vI a1), some (vI a2), some (vI a3)] [vI (bi (fp_O_isKind σ a2))] σ post
    refine ev_ifb_eq (tgt := 24) d_O_pace_11 rfl (fun h7 => ?_) (fun h7 => ?_)
    · rw [b3f h7] at e2
      exact J0 e2
    · rw [b3t h7] at e2
      refine ev_iload_n d_O_pace_14 rfl rfl ?_
      refine ev_iconst (v := 1) d_O_pace_15 (by decide) ?_
      refine ev_bipush (v := 9) d_O_pace_16 (by decide) ?_
      refine ev_callS (as := [vI a3, vI (1 : Int32), vI (9 : Int32)]) (st := []) g_O_within ml_O_86 d_O_pace_18 rfl rfl (Nat.le_of_ble_eq_true rfl) rfl (Nat.le_of_ble_eq_true rfl) ?_
      refine f_O_within  ?_
      show Ev none (d + 2) m_O_pace 21 [some (vR 0 0), some (vI a1), some (vI a2), some (vI a3)] [vI (bi (fp_O_within σ a3 (1 : Int32) (9 : Int32)))] σ post
      refine ev_ifb_ne (tgt := 27) d_O_pace_21 rfl (fun h8 => ?_) (fun h8 => ?_)
      · rw [bi_t h8] at e2
        exact J1 e2
      · rw [bi_f h8] at e2
        exact J0 e2
set_option maxRecDepth 4000 in
theorem sg_O_read_0 {d : Nat} {σ : ST} {a1 : Int32} {a2 : Int32} {post : Option AV → ST → Prop} (K : (((fp_O_isSheet σ a1) ∧ (fp_O_isReader σ a2)) → ((vp_in a1 4) ∧ ((fs_H_isLost σ (a1.toNatClampNeg)) ∧ ((((fn_H_isLost σ (a1.toNatClampNeg)) = 0) → (Ev none (d + 2) m_O_read 50 [some (vR 0 0), none, some (vI a2), some (vR 10 (a1.toNatClampNeg)), some (vI (imin (3 : Int32) (fn_H_size σ (a1.toNatClampNeg)))), some (vI (0 : Int32))] [] σ post)) ∧ (¬ ((fn_H_isLost σ (a1.toNatClampNeg)) = 0) → (Ev none (d + 1) m_O_found 0 [some (vR 0 0), some (vI (1 : Int32))] [] σ (fun r s7 => ∃ z8 : Int32, r = some (vI z8) ∧ (post (some (vI z8)) s7)))))))) ∧ (¬ ((fp_O_isSheet σ a1) ∧ (fp_O_isReader σ a2)) → (post (some (vI (-2 : Int32))) σ))) : Ev none (d + 2) m_O_read 0 [some (vR 0 0), some (vI a1), some (vI a2), none, none, none] [] σ post := by
  refine ev_iload_n d_O_read_0 rfl rfl ?_
  refine ev_callS (as := [vI a1]) (st := []) g_O_isSheet ml_O_137 d_O_read_1 rfl rfl (Nat.le_of_ble_eq_true rfl) rfl (Nat.le_of_ble_eq_true rfl) ?_
  refine f_O_isSheet  ?_
  show Ev none (d + 2) m_O_read 4 [some (vR 0 0), some (vI a1), some (vI a2), none, none, none] [vI (bi (fp_O_isSheet σ a1))] σ post
  obtain ⟨w1, e2⟩ : ∃ w : Int32, w = bi ((fp_O_isSheet σ a1) ∧ (fp_O_isReader σ a2)) := ⟨_, rfl⟩
  have J1 : w1 = 1 → Ev none (d + 2) m_O_read 17 [some (vR 0 0), some (vI a1), some (vI a2), none, none, none] [] σ post := by
    intro e21
    replace K := K.1 (bi_1.mp ((e2.symm).trans e21))
    refine ev_aload_n d_O_read_17 rfl rfl ?_
    refine ev_getR gf_O_71 rfl (by decide) d_O_read_18 ?_
    refine ev_iload_n d_O_read_21 rfl rfl ?_
    obtain ⟨q3, K⟩ := K
    refine ev_aald4 rfl (by decide) (by decide) q3 d_O_read_22 ?_
    have b4 := ix_lt q3
    refine ev_astore_n (L' := [some (vR 0 0), some (vI a1), some (vI a2), some (vR 10 (a1.toNatClampNeg)), none, none]) d_O_read_23 rfl (by decide) rfl ?_
    refine ev_aload_n d_O_read_24 rfl rfl ?_
    obtain ⟨q5, K⟩ := K
    refine ev_callV (as := []) (st := []) (k := 10) (i := (a1.toNatClampNeg)) g_H_isLost ml_O_140 rfl rfl (by decide) b4 d_O_read_25 rfl rfl (Nat.le_of_ble_eq_true rfl) rfl (Nat.le_of_ble_eq_true rfl) ?_
    refine f_H_isLost b4 q5 ?_
    show Ev none (d + 2) m_O_read 28 [some (vR 0 0), some (vI a1), some (vI a2), some (vR 10 (a1.toNatClampNeg)), none, none] [vI (fn_H_isLost σ (a1.toNatClampNeg))] σ post
    refine ev_if_eq (tgt := 37) d_O_read_28 rfl (fun h6 => ?_) (fun h6 => ?_)
    · replace K := K.1 h6
      refine ev_iconst (v := 3) d_O_read_37 (by decide) ?_
      refine ev_aload_n d_O_read_38 rfl rfl ?_
      refine ev_callV (as := []) (st := [vI (3 : Int32)]) (k := 10) (i := (a1.toNatClampNeg)) g_H_size ml_O_147 rfl rfl (by decide) b4 d_O_read_39 rfl rfl (Nat.le_of_ble_eq_true rfl) rfl (Nat.le_of_ble_eq_true rfl) ?_
      refine f_H_size b4 ?_
      show Ev none (d + 2) m_O_read 42 [some (vR 0 0), some (vI a1), some (vI a2), some (vR 10 (a1.toNatClampNeg)), none, none] [vI (fn_H_size σ (a1.toNatClampNeg)), vI (3 : Int32)] σ post
      refine ev_mmin ml_O_148 (Nat.le_of_ble_eq_true rfl) d_O_read_42 ?_
      refine ev_istore (L' := [some (vR 0 0), some (vI a1), some (vI a2), some (vR 10 (a1.toNatClampNeg)), some (vI (imin (3 : Int32) (fn_H_size σ (a1.toNatClampNeg)))), none]) d_O_read_45 (by decide) rfl ?_
      refine ev_iconst (v := 0) d_O_read_47 (by decide) ?_
      refine ev_istore (L' := [some (vR 0 0), some (vI a1), some (vI a2), some (vR 10 (a1.toNatClampNeg)), some (vI (imin (3 : Int32) (fn_H_size σ (a1.toNatClampNeg)))), some (vI (0 : Int32))]) d_O_read_48 (by decide) rfl ?_
      exact Ev.wk (lsub_kp (lsub_sk (lsub_kp (lsub_kp (lsub_kp (lsub_kp (lsub_nil))))))) K
    · replace K := K.2 h6
      refine ev_aload_n d_O_read_31 rfl rfl ?_
      refine ev_iconst (v := 1) d_O_read_32 (by decide) ?_
      refine ev_callV (as := [vI (1 : Int32)]) (st := []) (k := 0) (i := 0) g_O_found ml_O_144 rfl rfl (by decide) (by decide) d_O_read_33 rfl rfl (Nat.le_of_ble_eq_true rfl) rfl (Nat.le_of_ble_eq_true rfl) ?_
      refine Ev.mono K ?_
      rintro _ s7 ⟨z8, rfl, K⟩
      show Ev none (d + 2) m_O_read 36 [some (vR 0 0), some (vI a1), some (vI a2), some (vR 10 (a1.toNatClampNeg)), none, none] [vI z8] s7 post
      exact ev_ret (r := some (vI z8)) d_O_read_36 rfl rfl K
  have J0 : w1 = 0 → Ev none (d + 2) m_O_read 14 [some (vR 0 0), some (vI a1), some (vI a2), none, none, none] [] σ post := by
    intro e20
    replace K := K.2 (bi_0.mp ((e2.symm).trans e20))
    refine ev_bipush (v := -2) d_O_read_14 (by decide) ?_
    exact ev_ret (r := some (vI (-2 : Int32))) d_O_read_16 rfl rfl K
  clear K
  refine ev_ifb_eq (tgt := 14) d_O_read_4 rfl (fun h9 => ?_) (fun h9 => ?_)
  · rw [b3f h9] at e2
    exact J0 e2
  · rw [b3t h9] at e2
    refine ev_iload_n d_O_read_7 rfl rfl ?_
    refine ev_callS (as := [vI a2]) (st := []) g_O_isReader ml_O_121 d_O_read_8 rfl rfl (Nat.le_of_ble_eq_true rfl) rfl (Nat.le_of_ble_eq_true rfl) ?_
    refine f_O_isReader  ?_
    show Ev none (d + 2) m_O_read 11 [some (vR 0 0), some (vI a1), some (vI a2), none, none, none] [vI (bi (fp_O_isReader σ a2))] σ post
    refine ev_ifb_ne (tgt := 17) d_O_read_11 rfl (fun h10 => ?_) (fun h10 => ?_)
    · rw [bi_t h10] at e2
      exact J1 e2
    · rw [bi_f h10] at e2
      exact J0 e2
set_option maxRecDepth 4000 in
theorem sg_O_read_50 {d : Nat} {σ : ST} {a2 : Int32} {i3 : Nat} {a4 : Int32} {a5 : Int32} {post : Option AV → ST → Prop} (hi3 : i3 < 4) (K : (((a4 ≤ a5) → True) ∧ (¬ (a4 ≤ a5) → (fs_H_item σ i3 a5))) ∧ (((a4 ≤ a5) ∨ (¬ (fp_O_within σ (fn_H_item σ i3 a5) (1 : Int32) (9 : Int32)))) → (post (some (vI a5)) σ)) ∧ (¬ ((a4 ≤ a5) ∨ (¬ (fp_O_within σ (fn_H_item σ i3 a5) (1 : Int32) (9 : Int32)))) → ((fs_C_person σ a2) ∧ ((fs_H_item σ i3 a5) ∧ (Ev none (d + 1) m_R_changePace 0 [some (vR 3 (fx_C_person σ a2)), some (vI a5), some (vI (fn_H_item σ i3 a5)), none] [] σ (fun r s6 => ∃ z7 : Int32, r = some (vI z7) ∧ (Ev none (d + 2) m_O_read 50 [some (vR 0 0), none, some (vI a2), some (vR 10 i3), some (vI a4), some (vI (a5 + (1 : Int32)))] [] s6 post))))))) : Ev none (d + 2) m_O_read 50 [some (vR 0 0), none, some (vI a2), some (vR 10 i3), some (vI a4), some (vI a5)] [] σ post := by
  refine ev_iload d_O_read_50 rfl ?_
  refine ev_iload d_O_read_52 rfl ?_
  obtain ⟨KS, K⟩ := K
  obtain ⟨w2, e3⟩ : ∃ w : Int32, w = bi ((a4 ≤ a5) ∨ (¬ (fp_O_within σ (fn_H_item σ i3 a5) (1 : Int32) (9 : Int32)))) := ⟨_, rfl⟩
  have J1 : w2 = 1 → Ev none (d + 2) m_O_read 98 [some (vR 0 0), none, some (vI a2), some (vR 10 i3), some (vI a4), some (vI a5)] [] σ post := by
    intro e31
    replace K := K.1 (bi_1.mp ((e3.symm).trans e31))
    refine ev_iload d_O_read_98 rfl ?_
    exact ev_ret (r := some (vI a5)) d_O_read_100 rfl rfl K
  have J0 : w2 = 0 → Ev none (d + 2) m_O_read 72 [some (vR 0 0), none, some (vI a2), some (vR 10 i3), some (vI a4), some (vI a5)] [] σ post := by
    intro e30
    replace K := K.2 (bi_0.mp ((e3.symm).trans e30))
    refine ev_aload_n d_O_read_72 rfl rfl ?_
    refine ev_getR gf_O_21 rfl (by decide) d_O_read_73 ?_
    refine ev_iload_n d_O_read_76 rfl rfl ?_
    obtain ⟨q4, K⟩ := K
    refine ev_callV (as := [vI a2]) (st := []) (k := 2) (i := 0) g_C_person ml_O_127 rfl rfl (by decide) (by decide) d_O_read_77 rfl rfl (Nat.le_of_ble_eq_true rfl) rfl (Nat.le_of_ble_eq_true rfl) ?_
    refine f_C_person q4 ?_
    show Ev none (d + 2) m_O_read 80 [some (vR 0 0), none, some (vI a2), some (vR 10 i3), some (vI a4), some (vI a5)] [vR 3 (fx_C_person σ a2)] σ post
    refine ev_iload d_O_read_80 rfl ?_
    refine ev_aload_n d_O_read_82 rfl rfl ?_
    refine ev_iload d_O_read_83 rfl ?_
    obtain ⟨q5, K⟩ := K
    refine ev_callV (as := [vI a5]) (st := [vI a5, vR 3 (fx_C_person σ a2)]) (k := 10) (i := i3) g_H_item ml_O_153 rfl rfl (by decide) hi3 d_O_read_85 rfl rfl (Nat.le_of_ble_eq_true rfl) rfl (Nat.le_of_ble_eq_true rfl) ?_
    refine f_H_item hi3 q5 ?_
    show Ev none (d + 2) m_O_read 88 [some (vR 0 0), none, some (vI a2), some (vR 10 i3), some (vI a4), some (vI a5)] [vI (fn_H_item σ i3 a5), vI a5, vR 3 (fx_C_person σ a2)] σ post
    refine ev_callV (as := [vI a5, vI (fn_H_item σ i3 a5)]) (st := []) (k := 3) (i := (fx_C_person σ a2)) g_R_changePace ml_O_131 rfl rfl (by decide) (fb_C_person q4) d_O_read_88 rfl rfl (Nat.le_of_ble_eq_true rfl) rfl (Nat.le_of_ble_eq_true rfl) ?_
    refine Ev.mono K ?_
    rintro _ s6 ⟨z7, rfl, K⟩
    show Ev none (d + 2) m_O_read 91 [some (vR 0 0), none, some (vI a2), some (vR 10 i3), some (vI a4), some (vI a5)] [vI z7] s6 post
    refine ev_pop d_O_read_91 rfl ?_
    refine ev_iinc (v := a5 + (1 : Int32)) (L' := [some (vR 0 0), none, some (vI a2), some (vR 10 i3), some (vI a4), some (vI (a5 + (1 : Int32)))]) d_O_read_92 rfl (congrArg (a5 + ·) (by decide)) (by decide) rfl ?_
    refine ev_goto (tgt := 50) d_O_read_95 rfl ?_
    exact K
  clear K
  refine ev_icmp_ge (tgt := 98) d_O_read_54 rfl (fun h8 => ?_) (fun h8 => ?_)
  · replace KS := KS.1 h8
    rw [b4t h8] at e3
    exact J1 e3
  · replace KS := KS.2 h8
    rw [b4f h8] at e3
    have q1 := KS
    refine ev_aload_n d_O_read_57 rfl rfl ?_
    refine ev_iload d_O_read_58 rfl ?_
    refine ev_callV (as := [vI a5]) (st := []) (k := 10) (i := i3) g_H_item ml_O_153 rfl rfl (by decide) hi3 d_O_read_60 rfl rfl (Nat.le_of_ble_eq_true rfl) rfl (Nat.le_of_ble_eq_true rfl) ?_
    refine f_H_item hi3 q1 ?_
    show Ev none (d + 2) m_O_read 63 [some (vR 0 0), none, some (vI a2), some (vR 10 i3), some (vI a4), some (vI a5)] [vI (fn_H_item σ i3 a5)] σ post
    refine ev_iconst (v := 1) d_O_read_63 (by decide) ?_
    refine ev_bipush (v := 9) d_O_read_64 (by decide) ?_
    refine ev_callS (as := [vI (fn_H_item σ i3 a5), vI (1 : Int32), vI (9 : Int32)]) (st := []) g_O_within ml_O_86 d_O_read_66 rfl rfl (Nat.le_of_ble_eq_true rfl) rfl (Nat.le_of_ble_eq_true rfl) ?_
    refine f_O_within  ?_
    show Ev none (d + 2) m_O_read 69 [some (vR 0 0), none, some (vI a2), some (vR 10 i3), some (vI a4), some (vI a5)] [vI (bi (fp_O_within σ (fn_H_item σ i3 a5) (1 : Int32) (9 : Int32)))] σ post
    refine ev_ifb_eq (tgt := 98) d_O_read_69 rfl (fun h9 => ?_) (fun h9 => ?_)
    · rw [bi_t h9] at e3
      exact J1 e3
    · rw [bi_f (not_not_intro h9)] at e3
      exact J0 e3
set_option maxRecDepth 4000 in
theorem sg_O_reader_0 {d : Nat} {σ : ST} {a1 : Int32} {a2 : Int32} {a3 : Int32} {post : Option AV → ST → Prop} (K : (((fp_O_isReader σ a1) ∧ ((fp_O_within σ a2 (0 : Int32) (2 : Int32)) ∧ (fp_O_within σ a3 (0 : Int32) (fn_O_mostOfTrait σ a2)))) → ((fs_C_person σ a1) ∧ (Ev none (d + 1) m_R_changeTrait 0 [some (vR 3 (fx_C_person σ a1)), some (vI a2), some (vI a3), none] [] σ (fun r s4 => ∃ z5 : Int32, r = some (vI z5) ∧ (post (some (vI z5)) s4))))) ∧ (¬ ((fp_O_isReader σ a1) ∧ ((fp_O_within σ a2 (0 : Int32) (2 : Int32)) ∧ (fp_O_within σ a3 (0 : Int32) (fn_O_mostOfTrait σ a2)))) → (post (some (vI (-2 : Int32))) σ))) : Ev none (d + 2) m_O_reader 0 [some (vR 0 0), some (vI a1), some (vI a2), some (vI a3)] [] σ post := by
  refine ev_iload_n d_O_reader_0 rfl rfl ?_
  refine ev_callS (as := [vI a1]) (st := []) g_O_isReader ml_O_121 d_O_reader_1 rfl rfl (Nat.le_of_ble_eq_true rfl) rfl (Nat.le_of_ble_eq_true rfl) ?_
  refine f_O_isReader  ?_
  show Ev none (d + 2) m_O_reader 4 [some (vR 0 0), some (vI a1), some (vI a2), some (vI a3)] [vI (bi (fp_O_isReader σ a1))] σ post
  obtain ⟨w1, e2⟩ : ∃ w : Int32, w = bi ((fp_O_isReader σ a1) ∧ ((fp_O_within σ a2 (0 : Int32) (2 : Int32)) ∧ (fp_O_within σ a3 (0 : Int32) (fn_O_mostOfTrait σ a2)))) := ⟨_, rfl⟩
  have J1 : w1 = 1 → Ev none (d + 2) m_O_reader 31 [some (vR 0 0), some (vI a1), some (vI a2), some (vI a3)] [] σ post := by
    intro e21
    replace K := K.1 (bi_1.mp ((e2.symm).trans e21))
    refine ev_aload_n d_O_reader_31 rfl rfl ?_
    refine ev_getR gf_O_21 rfl (by decide) d_O_reader_32 ?_
    refine ev_iload_n d_O_reader_35 rfl rfl ?_
    obtain ⟨q3, K⟩ := K
    refine ev_callV (as := [vI a1]) (st := []) (k := 2) (i := 0) g_C_person ml_O_127 rfl rfl (by decide) (by decide) d_O_reader_36 rfl rfl (Nat.le_of_ble_eq_true rfl) rfl (Nat.le_of_ble_eq_true rfl) ?_
    refine f_C_person q3 ?_
    show Ev none (d + 2) m_O_reader 39 [some (vR 0 0), some (vI a1), some (vI a2), some (vI a3)] [vR 3 (fx_C_person σ a1)] σ post
    refine ev_iload_n d_O_reader_39 rfl rfl ?_
    refine ev_iload_n d_O_reader_40 rfl rfl ?_
    refine ev_callV (as := [vI a2, vI a3]) (st := []) (k := 3) (i := (fx_C_person σ a1)) g_R_changeTrait ml_O_166 rfl rfl (by decide) (fb_C_person q3) d_O_reader_41 rfl rfl (Nat.le_of_ble_eq_true rfl) rfl (Nat.le_of_ble_eq_true rfl) ?_
    refine Ev.mono K ?_
    rintro _ s4 ⟨z5, rfl, K⟩
    show Ev none (d + 2) m_O_reader 44 [some (vR 0 0), some (vI a1), some (vI a2), some (vI a3)] [vI z5] s4 post
    exact ev_ret (r := some (vI z5)) d_O_reader_44 rfl rfl K
  have J0 : w1 = 0 → Ev none (d + 2) m_O_reader 28 [some (vR 0 0), some (vI a1), some (vI a2), some (vI a3)] [] σ post := by
    intro e20
    replace K := K.2 (bi_0.mp ((e2.symm).trans e20))
    refine ev_bipush (v := -2) d_O_reader_28 (by decide) ?_
    exact ev_ret (r := some (vI (-2 : Int32))) d_O_reader_30 rfl rfl K
  clear K
  refine ev_ifb_eq (tgt := 28) d_O_reader_4 rfl (fun h6 => ?_) (fun h6 => ?_)
  · rw [b3f h6] at e2
    exact J0 e2
  · rw [b3t h6] at e2
    refine ev_iload_n d_O_reader_7 rfl rfl ?_
    refine ev_iconst (v := 0) d_O_reader_8 (by decide) ?_
    refine ev_iconst (v := 2) d_O_reader_9 (by decide) ?_
    refine ev_callS (as := [vI a2, vI (0 : Int32), vI (2 : Int32)]) (st := []) g_O_within ml_O_86 d_O_reader_10 rfl rfl (Nat.le_of_ble_eq_true rfl) rfl (Nat.le_of_ble_eq_true rfl) ?_
    refine f_O_within  ?_
    show Ev none (d + 2) m_O_reader 13 [some (vR 0 0), some (vI a1), some (vI a2), some (vI a3)] [vI (bi (fp_O_within σ a2 (0 : Int32) (2 : Int32)))] σ post
    refine ev_ifb_eq (tgt := 28) d_O_reader_13 rfl (fun h7 => ?_) (fun h7 => ?_)
    · rw [b3f h7] at e2
      exact J0 e2
    · rw [b3t h7] at e2
      refine ev_iload_n d_O_reader_16 rfl rfl ?_
      refine ev_iconst (v := 0) d_O_reader_17 (by decide) ?_
      refine ev_iload_n d_O_reader_18 rfl rfl ?_
      refine ev_callS (as := [vI a2]) (st := [vI (0 : Int32), vI a3]) g_O_mostOfTrait ml_O_163 d_O_reader_19 rfl rfl (Nat.le_of_ble_eq_true rfl) rfl (Nat.le_of_ble_eq_true rfl) ?_
      refine f_O_mostOfTrait  ?_
      show Ev none (d + 2) m_O_reader 22 [some (vR 0 0), some (vI a1), some (vI a2), some (vI a3)] [vI (fn_O_mostOfTrait σ a2), vI (0 : Int32), vI a3] σ post
      refine ev_callS (as := [vI a3, vI (0 : Int32), vI (fn_O_mostOfTrait σ a2)]) (st := []) g_O_within ml_O_86 d_O_reader_22 rfl rfl (Nat.le_of_ble_eq_true rfl) rfl (Nat.le_of_ble_eq_true rfl) ?_
      refine f_O_within  ?_
      show Ev none (d + 2) m_O_reader 25 [some (vR 0 0), some (vI a1), some (vI a2), some (vI a3)] [vI (bi (fp_O_within σ a3 (0 : Int32) (fn_O_mostOfTrait σ a2)))] σ post
      refine ev_ifb_ne (tgt := 31) d_O_reader_25 rfl (fun h8 => ?_) (fun h8 => ?_)
      · rw [bi_t h8] at e2
        exact J1 e2
      · rw [bi_f h8] at e2
        exact J0 e2
set_option maxRecDepth 4000 in
theorem sg_O_sheet_0 {d : Nat} {σ : ST} {a1 : Int32} {a2 : Int32} {a3 : Int32} {post : Option AV → ST → Prop} (K : ((fp_O_isSheet σ a1) → (((fp_O_isForm σ a2) → (((a3 ≤ (60 : Int32)) → (((0 ≤ a3) → ((vp_in a1 4) ∧ (Ev none (d + 1) m_H_renew 0 [some (vR 10 (a1.toNatClampNeg)), some (vI a2), some (vI a3), none] [] σ (fun r s7 => r = none ∧ (post (some (vI a3)) s7))))) ∧ (¬ (0 ≤ a3) → (Ev none (d + 1) m_O_found 0 [some (vR 0 0), some (vI (5 : Int32))] [] σ (fun r s8 => ∃ z9 : Int32, r = some (vI z9) ∧ (post (some (vI z9)) s8)))))) ∧ (¬ (a3 ≤ (60 : Int32)) → (post (some (vI (-2 : Int32))) σ)))) ∧ (¬ (fp_O_isForm σ a2) → (post (some (vI (-2 : Int32))) σ)))) ∧ (¬ (fp_O_isSheet σ a1) → (post (some (vI (-2 : Int32))) σ))) : Ev none (d + 2) m_O_sheet 0 [some (vR 0 0), some (vI a1), some (vI a2), some (vI a3)] [] σ post := by
  refine ev_iload_n d_O_sheet_0 rfl rfl ?_
  refine ev_callS (as := [vI a1]) (st := []) g_O_isSheet ml_O_137 d_O_sheet_1 rfl rfl (Nat.le_of_ble_eq_true rfl) rfl (Nat.le_of_ble_eq_true rfl) ?_
  refine f_O_isSheet  ?_
  show Ev none (d + 2) m_O_sheet 4 [some (vR 0 0), some (vI a1), some (vI a2), some (vI a3)] [vI (bi (fp_O_isSheet σ a1))] σ post
  refine ev_ifb_eq (tgt := 20) d_O_sheet_4 rfl (fun h1 => ?_) (fun h1 => ?_)
  · replace K := K.2 h1
    refine ev_bipush (v := -2) d_O_sheet_20 (by decide) ?_
    exact ev_ret (r := some (vI (-2 : Int32))) d_O_sheet_22 rfl rfl K
  · replace K := K.1 h1
    refine ev_iload_n d_O_sheet_7 rfl rfl ?_
    refine ev_callS (as := [vI a2]) (st := []) g_O_isForm ml_O_270 d_O_sheet_8 rfl rfl (Nat.le_of_ble_eq_true rfl) rfl (Nat.le_of_ble_eq_true rfl) ?_
    refine f_O_isForm  ?_
    show Ev none (d + 2) m_O_sheet 11 [some (vR 0 0), some (vI a1), some (vI a2), some (vI a3)] [vI (bi (fp_O_isForm σ a2))] σ post
    refine ev_ifb_eq (tgt := 20) d_O_sheet_11 rfl (fun h2 => ?_) (fun h2 => ?_)
    · replace K := K.2 h2
      refine ev_bipush (v := -2) d_O_sheet_20 (by decide) ?_
      exact ev_ret (r := some (vI (-2 : Int32))) d_O_sheet_22 rfl rfl K
    · replace K := K.1 h2
      refine ev_iload_n d_O_sheet_14 rfl rfl ?_
      refine ev_bipush (v := 60) d_O_sheet_15 (by decide) ?_
      refine ev_icmp_le (tgt := 23) d_O_sheet_17 rfl (fun h3 => ?_) (fun h3 => ?_)
      · replace K := K.1 h3
        refine ev_iload_n d_O_sheet_23 rfl rfl ?_
        refine ev_if_ge (tgt := 33) d_O_sheet_24 rfl (fun h4 => ?_) (fun h4 => ?_)
        · replace K := K.1 h4
          refine ev_aload_n d_O_sheet_33 rfl rfl ?_
          refine ev_getR gf_O_71 rfl (by decide) d_O_sheet_34 ?_
          refine ev_iload_n d_O_sheet_37 rfl rfl ?_
          obtain ⟨q5, K⟩ := K
          refine ev_aald4 rfl (by decide) (by decide) q5 d_O_sheet_38 ?_
          have b6 := ix_lt q5
          refine ev_iload_n d_O_sheet_39 rfl rfl ?_
          refine ev_iload_n d_O_sheet_40 rfl rfl ?_
          refine ev_callV (as := [vI a2, vI a3]) (st := []) (k := 10) (i := (a1.toNatClampNeg)) g_H_renew ml_O_273 rfl rfl (by decide) b6 d_O_sheet_41 rfl rfl (Nat.le_of_ble_eq_true rfl) rfl (Nat.le_of_ble_eq_true rfl) ?_
          refine Ev.mono K ?_
          rintro _ s7 ⟨rfl, K⟩
          show Ev none (d + 2) m_O_sheet 44 [some (vR 0 0), some (vI a1), some (vI a2), some (vI a3)] [] s7 post
          refine ev_iload_n d_O_sheet_44 rfl rfl ?_
          exact ev_ret (r := some (vI a3)) d_O_sheet_45 rfl rfl K
        · replace K := K.2 h4
          refine ev_aload_n d_O_sheet_27 rfl rfl ?_
          refine ev_iconst (v := 5) d_O_sheet_28 (by decide) ?_
          refine ev_callV (as := [vI (5 : Int32)]) (st := []) (k := 0) (i := 0) g_O_found ml_O_144 rfl rfl (by decide) (by decide) d_O_sheet_29 rfl rfl (Nat.le_of_ble_eq_true rfl) rfl (Nat.le_of_ble_eq_true rfl) ?_
          refine Ev.mono K ?_
          rintro _ s8 ⟨z9, rfl, K⟩
          show Ev none (d + 2) m_O_sheet 32 [some (vR 0 0), some (vI a1), some (vI a2), some (vI a3)] [vI z9] s8 post
          exact ev_ret (r := some (vI z9)) d_O_sheet_32 rfl rfl K
      · replace K := K.2 h3
        refine ev_bipush (v := -2) d_O_sheet_20 (by decide) ?_
        exact ev_ret (r := some (vI (-2 : Int32))) d_O_sheet_22 rfl rfl K
set_option maxRecDepth 4000 in
theorem sg_O_turn_0 {d : Nat} {σ : ST} {a1 : Int32} {a2 : Int32} {a3 : Int32} {post : Option AV → ST → Prop} (K : (((fp_O_within σ a1 (0 : Int32) (7 : Int32)) ∧ ((fp_O_isCompany σ a2) ∧ (fp_O_within σ a3 (0 : Int32) (999 : Int32)))) → (Ev none (d + 1) m_U_append 0 [some (vR 8 0), some (vI a1), some (vI a2), some (vI a3)] [] σ (fun r s3 => ∃ z4 : Int32, r = some (vI z4) ∧ (((z4 = 0) → (post (some (vI (-4 : Int32))) s3)) ∧ (¬ (z4 = 0) → (post (some (vI (fn_U_size s3))) s3)))))) ∧ (¬ ((fp_O_within σ a1 (0 : Int32) (7 : Int32)) ∧ ((fp_O_isCompany σ a2) ∧ (fp_O_within σ a3 (0 : Int32) (999 : Int32)))) → (post (some (vI (-2 : Int32))) σ))) : Ev none (d + 2) m_O_turn 0 [some (vR 0 0), some (vI a1), some (vI a2), some (vI a3)] [] σ post := by
  refine ev_iload_n d_O_turn_0 rfl rfl ?_
  refine ev_iconst (v := 0) d_O_turn_1 (by decide) ?_
  refine ev_bipush (v := 7) d_O_turn_2 (by decide) ?_
  refine ev_callS (as := [vI a1, vI (0 : Int32), vI (7 : Int32)]) (st := []) g_O_within ml_O_86 d_O_turn_4 rfl rfl (Nat.le_of_ble_eq_true rfl) rfl (Nat.le_of_ble_eq_true rfl) ?_
  refine f_O_within  ?_
  show Ev none (d + 2) m_O_turn 7 [some (vR 0 0), some (vI a1), some (vI a2), some (vI a3)] [vI (bi (fp_O_within σ a1 (0 : Int32) (7 : Int32)))] σ post
  obtain ⟨w1, e2⟩ : ∃ w : Int32, w = bi ((fp_O_within σ a1 (0 : Int32) (7 : Int32)) ∧ ((fp_O_isCompany σ a2) ∧ (fp_O_within σ a3 (0 : Int32) (999 : Int32)))) := ⟨_, rfl⟩
  have J1 : w1 = 1 → Ev none (d + 2) m_O_turn 31 [some (vR 0 0), some (vI a1), some (vI a2), some (vI a3)] [] σ post := by
    intro e21
    replace K := K.1 (bi_1.mp ((e2.symm).trans e21))
    refine ev_aload_n d_O_turn_31 rfl rfl ?_
    refine ev_getR gf_O_58 rfl (by decide) d_O_turn_32 ?_
    refine ev_iload_n d_O_turn_35 rfl rfl ?_
    refine ev_iload_n d_O_turn_36 rfl rfl ?_
    refine ev_iload_n d_O_turn_37 rfl rfl ?_
    refine ev_callV (as := [vI a1, vI a2, vI a3]) (st := []) (k := 8) (i := 0) g_U_append ml_O_243 rfl rfl (by decide) (by decide) d_O_turn_38 rfl rfl (Nat.le_of_ble_eq_true rfl) rfl (Nat.le_of_ble_eq_true rfl) ?_
    refine Ev.mono K ?_
    rintro _ s3 ⟨z4, rfl, K⟩
    show Ev none (d + 2) m_O_turn 41 [some (vR 0 0), some (vI a1), some (vI a2), some (vI a3)] [vI z4] s3 post
    refine ev_if_eq (tgt := 54) d_O_turn_41 rfl (fun h5 => ?_) (fun h5 => ?_)
    · replace K := K.1 h5
      refine ev_bipush (v := -4) d_O_turn_54 (by decide) ?_
      exact ev_ret (r := some (vI (-4 : Int32))) d_O_turn_56 rfl rfl K
    · replace K := K.2 h5
      refine ev_aload_n d_O_turn_44 rfl rfl ?_
      refine ev_getR gf_O_58 rfl (by decide) d_O_turn_45 ?_
      refine ev_callV (as := []) (st := []) (k := 8) (i := 0) g_U_size ml_O_245 rfl rfl (by decide) (by decide) d_O_turn_48 rfl rfl (Nat.le_of_ble_eq_true rfl) rfl (Nat.le_of_ble_eq_true rfl) ?_
      refine f_U_size  ?_
      show Ev none (d + 2) m_O_turn 51 [some (vR 0 0), some (vI a1), some (vI a2), some (vI a3)] [vI (fn_U_size s3)] s3 post
      refine ev_goto (tgt := 56) d_O_turn_51 rfl ?_
      exact ev_ret (r := some (vI (fn_U_size s3))) d_O_turn_56 rfl rfl K
  have J0 : w1 = 0 → Ev none (d + 2) m_O_turn 28 [some (vR 0 0), some (vI a1), some (vI a2), some (vI a3)] [] σ post := by
    intro e20
    replace K := K.2 (bi_0.mp ((e2.symm).trans e20))
    refine ev_bipush (v := -2) d_O_turn_28 (by decide) ?_
    exact ev_ret (r := some (vI (-2 : Int32))) d_O_turn_30 rfl rfl K
  clear K
  refine ev_ifb_eq (tgt := 28) d_O_turn_7 rfl (fun h6 => ?_) (fun h6 => ?_)
  · rw [b3f h6] at e2
    exact J0 e2
  · rw [b3t h6] at e2
    refine ev_iload_n d_O_turn_10 rfl rfl ?_
    refine ev_callS (as := [vI a2]) (st := []) g_O_isCompany ml_O_172 d_O_turn_11 rfl rfl (Nat.le_of_ble_eq_true rfl) rfl (Nat.le_of_ble_eq_true rfl) ?_
    refine f_O_isCompany  ?_
    show Ev none (d + 2) m_O_turn 14 [some (vR 0 0), some (vI a1), some (vI a2), some (vI a3)] [vI (bi (fp_O_isCompany σ a2))] σ post
    refine ev_ifb_eq (tgt := 28) d_O_turn_14 rfl (fun h7 => ?_) (fun h7 => ?_)
    · rw [b3f h7] at e2
      exact J0 e2
    · rw [b3t h7] at e2
      refine ev_iload_n d_O_turn_17 rfl rfl ?_
      refine ev_iconst (v := 0) d_O_turn_18 (by decide) ?_
      refine ev_sipush (v := 999) d_O_turn_19 (by decide) ?_
      refine ev_callS (as := [vI a3, vI (0 : Int32), vI (999 : Int32)]) (st := []) g_O_within ml_O_86 d_O_turn_22 rfl rfl (Nat.le_of_ble_eq_true rfl) rfl (Nat.le_of_ble_eq_true rfl) ?_
      refine f_O_within  ?_
      show Ev none (d + 2) m_O_turn 25 [some (vR 0 0), some (vI a1), some (vI a2), some (vI a3)] [vI (bi (fp_O_within σ a3 (0 : Int32) (999 : Int32)))] σ post
      refine ev_ifb_ne (tgt := 31) d_O_turn_25 rfl (fun h8 => ?_) (fun h8 => ?_)
      · rw [bi_t h8] at e2
        exact J1 e2
      · rw [bi_f h8] at e2
        exact J0 e2
set_option maxRecDepth 4000 in
theorem sg_O_count_0 {d : Nat} {σ : ST} {a1 : Int32} {post : Option AV → ST → Prop} (K : (a1 = 0 → (post (some (vI (fn_B_chapters σ))) σ)) ∧ (¬ a1 = 0 → ((a1 = 1 → (post (some (vI (fn_B_size σ))) σ)) ∧ (¬ a1 = 1 → ((a1 = 2 → (Ev none (d + 2) m_B_allLines 0 [some (vR 1 0), none, none] [] σ (fun r s4 => ∃ z5 : Int32, r = some (vI z5) ∧ (post (some (vI z5)) s4)))) ∧ (¬ a1 = 2 → ((a1 = 3 → (Ev none (d + 2) m_C_countSkipped 0 [some (vR 2 0), none, none] [] σ (fun r s7 => ∃ z8 : Int32, r = some (vI z8) ∧ (post (some (vI z8)) s7)))) ∧ (¬ a1 = 3 → ((a1 = 4 → (Ev none (d + 2) m_C_countLikes 0 [some (vR 2 0), none, none, none] [] σ (fun r s10 => ∃ z11 : Int32, r = some (vI z11) ∧ (post (some (vI z11)) s10)))) ∧ (¬ a1 = 4 → ((a1 = 5 → (post (some (vI (fn_U_size σ))) σ)) ∧ (¬ a1 = 5 → ((a1 = 6 → (post (some (vI (σ.1 0 0 9))) σ)) ∧ (¬ a1 = 6 → ((a1 = 7 → (post (some (vI (σ.1 0 0 10))) σ)) ∧ (¬ a1 = 7 → ((a1 = 8 → (post (some (vI (σ.1 0 0 11))) σ)) ∧ (¬ a1 = 8 → (post (some (vI (-2 : Int32))) σ))))))))))))))))))) : Ev none (d + 3) m_O_count 0 [some (vR 0 0), some (vI a1)] [] σ post := by
  refine ev_iload_n d_O_count_0 rfl rfl ?_
  by_cases h1 : a1 = 0
  · replace K := K.1 h1
    refine ev_tableIn (off := 51) (tgt := 52) d_O_count_1 (by rw [h1]; decide) (by rw [h1]; decide) (by rw [h1]; decide) rfl ?_
    refine ev_aload_n d_O_count_52 rfl rfl ?_
    refine ev_getR gf_O_10 rfl (by decide) d_O_count_53 ?_
    refine ev_callV (as := []) (st := []) (k := 1) (i := 0) g_B_chapters ml_O_297 rfl rfl (by decide) (by decide) d_O_count_56 rfl rfl (Nat.le_of_ble_eq_true rfl) rfl (Nat.le_of_ble_eq_true rfl) ?_
    refine f_B_chapters  ?_
    show Ev none (d + 3) m_O_count 59 [some (vR 0 0), some (vI a1)] [vI (fn_B_chapters σ)] σ post
    exact ev_ret (r := some (vI (fn_B_chapters σ))) d_O_count_59 rfl rfl K
  · replace K := K.2 h1
    by_cases h2 : a1 = 1
    · replace K := K.1 h2
      refine ev_tableIn (off := 59) (tgt := 60) d_O_count_1 (by rw [h2]; decide) (by rw [h2]; decide) (by rw [h2]; decide) rfl ?_
      refine ev_aload_n d_O_count_60 rfl rfl ?_
      refine ev_getR gf_O_10 rfl (by decide) d_O_count_61 ?_
      refine ev_callV (as := []) (st := []) (k := 1) (i := 0) g_B_size ml_O_94 rfl rfl (by decide) (by decide) d_O_count_64 rfl rfl (Nat.le_of_ble_eq_true rfl) rfl (Nat.le_of_ble_eq_true rfl) ?_
      refine f_B_size  ?_
      show Ev none (d + 3) m_O_count 67 [some (vR 0 0), some (vI a1)] [vI (fn_B_size σ)] σ post
      exact ev_ret (r := some (vI (fn_B_size σ))) d_O_count_67 rfl rfl K
    · replace K := K.2 h2
      by_cases h3 : a1 = 2
      · replace K := K.1 h3
        refine ev_tableIn (off := 67) (tgt := 68) d_O_count_1 (by rw [h3]; decide) (by rw [h3]; decide) (by rw [h3]; decide) rfl ?_
        refine ev_aload_n d_O_count_68 rfl rfl ?_
        refine ev_getR gf_O_10 rfl (by decide) d_O_count_69 ?_
        refine ev_callV (as := []) (st := []) (k := 1) (i := 0) g_B_allLines ml_O_298 rfl rfl (by decide) (by decide) d_O_count_72 rfl rfl (Nat.le_of_ble_eq_true rfl) rfl (Nat.le_of_ble_eq_true rfl) ?_
        refine Ev.mono K ?_
        rintro _ s4 ⟨z5, rfl, K⟩
        show Ev none (d + 3) m_O_count 75 [some (vR 0 0), some (vI a1)] [vI z5] s4 post
        exact ev_ret (r := some (vI z5)) d_O_count_75 rfl rfl K
      · replace K := K.2 h3
        by_cases h6 : a1 = 3
        · replace K := K.1 h6
          refine ev_tableIn (off := 75) (tgt := 76) d_O_count_1 (by rw [h6]; decide) (by rw [h6]; decide) (by rw [h6]; decide) rfl ?_
          refine ev_aload_n d_O_count_76 rfl rfl ?_
          refine ev_getR gf_O_21 rfl (by decide) d_O_count_77 ?_
          refine ev_callV (as := []) (st := []) (k := 2) (i := 0) g_C_countSkipped ml_O_301 rfl rfl (by decide) (by decide) d_O_count_80 rfl rfl (Nat.le_of_ble_eq_true rfl) rfl (Nat.le_of_ble_eq_true rfl) ?_
          refine Ev.mono K ?_
          rintro _ s7 ⟨z8, rfl, K⟩
          show Ev none (d + 3) m_O_count 83 [some (vR 0 0), some (vI a1)] [vI z8] s7 post
          exact ev_ret (r := some (vI z8)) d_O_count_83 rfl rfl K
        · replace K := K.2 h6
          by_cases h9 : a1 = 4
          · replace K := K.1 h9
            refine ev_tableIn (off := 83) (tgt := 84) d_O_count_1 (by rw [h9]; decide) (by rw [h9]; decide) (by rw [h9]; decide) rfl ?_
            refine ev_aload_n d_O_count_84 rfl rfl ?_
            refine ev_getR gf_O_21 rfl (by decide) d_O_count_85 ?_
            refine ev_callV (as := []) (st := []) (k := 2) (i := 0) g_C_countLikes ml_O_304 rfl rfl (by decide) (by decide) d_O_count_88 rfl rfl (Nat.le_of_ble_eq_true rfl) rfl (Nat.le_of_ble_eq_true rfl) ?_
            refine Ev.mono K ?_
            rintro _ s10 ⟨z11, rfl, K⟩
            show Ev none (d + 3) m_O_count 91 [some (vR 0 0), some (vI a1)] [vI z11] s10 post
            exact ev_ret (r := some (vI z11)) d_O_count_91 rfl rfl K
          · replace K := K.2 h9
            by_cases h12 : a1 = 5
            · replace K := K.1 h12
              refine ev_tableIn (off := 91) (tgt := 92) d_O_count_1 (by rw [h12]; decide) (by rw [h12]; decide) (by rw [h12]; decide) rfl ?_
              refine ev_aload_n d_O_count_92 rfl rfl ?_
              refine ev_getR gf_O_58 rfl (by decide) d_O_count_93 ?_
              refine ev_callV (as := []) (st := []) (k := 8) (i := 0) g_U_size ml_O_245 rfl rfl (by decide) (by decide) d_O_count_96 rfl rfl (Nat.le_of_ble_eq_true rfl) rfl (Nat.le_of_ble_eq_true rfl) ?_
              refine f_U_size  ?_
              show Ev none (d + 3) m_O_count 99 [some (vR 0 0), some (vI a1)] [vI (fn_U_size σ)] σ post
              exact ev_ret (r := some (vI (fn_U_size σ))) d_O_count_99 rfl rfl K
            · replace K := K.2 h12
              by_cases h13 : a1 = 6
              · replace K := K.1 h13
                refine ev_tableIn (off := 99) (tgt := 100) d_O_count_1 (by rw [h13]; decide) (by rw [h13]; decide) (by rw [h13]; decide) rfl ?_
                refine ev_aload_n d_O_count_100 rfl rfl ?_
                refine ev_getI gf_O_76 rfl (by decide) d_O_count_101 ?_
                exact ev_ret (r := some (vI (σ.1 0 0 9))) d_O_count_104 rfl rfl K
              · replace K := K.2 h13
                by_cases h14 : a1 = 7
                · replace K := K.1 h14
                  refine ev_tableIn (off := 104) (tgt := 105) d_O_count_1 (by rw [h14]; decide) (by rw [h14]; decide) (by rw [h14]; decide) rfl ?_
                  refine ev_aload_n d_O_count_105 rfl rfl ?_
                  refine ev_getI gf_O_80 rfl (by decide) d_O_count_106 ?_
                  exact ev_ret (r := some (vI (σ.1 0 0 10))) d_O_count_109 rfl rfl K
                · replace K := K.2 h14
                  by_cases h15 : a1 = 8
                  · replace K := K.1 h15
                    refine ev_tableIn (off := 109) (tgt := 110) d_O_count_1 (by rw [h15]; decide) (by rw [h15]; decide) (by rw [h15]; decide) rfl ?_
                    refine ev_aload_n d_O_count_110 rfl rfl ?_
                    refine ev_getI gf_O_83 rfl (by decide) d_O_count_111 ?_
                    exact ev_ret (r := some (vI (σ.1 0 0 11))) d_O_count_114 rfl rfl K
                  · replace K := K.2 h15
                    refine ev_tableOut (tgt := 115) d_O_count_1 (by have u0 : ¬ Int32.toInt a1 = 0 := fun q => h1 (Int32.toInt_inj.mp q); have u1 : ¬ Int32.toInt a1 = 1 := fun q => h2 (Int32.toInt_inj.mp q); have u2 : ¬ Int32.toInt a1 = 2 := fun q => h3 (Int32.toInt_inj.mp q); have u3 : ¬ Int32.toInt a1 = 3 := fun q => h6 (Int32.toInt_inj.mp q); have u4 : ¬ Int32.toInt a1 = 4 := fun q => h9 (Int32.toInt_inj.mp q); have u5 : ¬ Int32.toInt a1 = 5 := fun q => h12 (Int32.toInt_inj.mp q); have u6 : ¬ Int32.toInt a1 = 6 := fun q => h13 (Int32.toInt_inj.mp q); have u7 : ¬ Int32.toInt a1 = 7 := fun q => h14 (Int32.toInt_inj.mp q); have u8 : ¬ Int32.toInt a1 = 8 := fun q => h15 (Int32.toInt_inj.mp q); omega) rfl ?_
                    refine ev_bipush (v := -2) d_O_count_115 (by decide) ?_
                    exact ev_ret (r := some (vI (-2 : Int32))) d_O_count_117 rfl rfl K
set_option maxRecDepth 4000 in
theorem sg_O_write_0 {d : Nat} {σ : ST} {a1 : Int32} {a2 : Int32} {post : Option AV → ST → Prop} (K : (((fp_O_isReader σ a1) ∧ (fp_O_isSheet σ a2)) → ((vp_in a2 4) ∧ ((fs_H_isLost σ (a2.toNatClampNeg)) ∧ ((((fn_H_isLost σ (a2.toNatClampNeg)) = 0) → (Ev none (d + 3) m_O_write 56 [some (vR 0 0), some (vI a1), none, some (vR 10 (a2.toNatClampNeg)), some (vI (imin (fn_B_chapters σ) (fn_H_size σ (a2.toNatClampNeg)))), some (vI (0 : Int32))] [] σ post)) ∧ (¬ ((fn_H_isLost σ (a2.toNatClampNeg)) = 0) → (Ev none (d + 2) m_O_found 0 [some (vR 0 0), some (vI (1 : Int32))] [] σ (fun r s7 => ∃ z8 : Int32, r = some (vI z8) ∧ (post (some (vI z8)) s7)))))))) ∧ (¬ ((fp_O_isReader σ a1) ∧ (fp_O_isSheet σ a2)) → (post (some (vI (-2 : Int32))) σ))) : Ev none (d + 3) m_O_write 0 [some (vR 0 0), some (vI a1), some (vI a2), none, none, none] [] σ post := by
  refine ev_iload_n d_O_write_0 rfl rfl ?_
  refine ev_callS (as := [vI a1]) (st := []) g_O_isReader ml_O_121 d_O_write_1 rfl rfl (Nat.le_of_ble_eq_true rfl) rfl (Nat.le_of_ble_eq_true rfl) ?_
  refine f_O_isReader  ?_
  show Ev none (d + 3) m_O_write 4 [some (vR 0 0), some (vI a1), some (vI a2), none, none, none] [vI (bi (fp_O_isReader σ a1))] σ post
  obtain ⟨w1, e2⟩ : ∃ w : Int32, w = bi ((fp_O_isReader σ a1) ∧ (fp_O_isSheet σ a2)) := ⟨_, rfl⟩
  have J1 : w1 = 1 → Ev none (d + 3) m_O_write 17 [some (vR 0 0), some (vI a1), some (vI a2), none, none, none] [] σ post := by
    intro e21
    replace K := K.1 (bi_1.mp ((e2.symm).trans e21))
    refine ev_aload_n d_O_write_17 rfl rfl ?_
    refine ev_getR gf_O_71 rfl (by decide) d_O_write_18 ?_
    refine ev_iload_n d_O_write_21 rfl rfl ?_
    obtain ⟨q3, K⟩ := K
    refine ev_aald4 rfl (by decide) (by decide) q3 d_O_write_22 ?_
    have b4 := ix_lt q3
    refine ev_astore_n (L' := [some (vR 0 0), some (vI a1), some (vI a2), some (vR 10 (a2.toNatClampNeg)), none, none]) d_O_write_23 rfl (by decide) rfl ?_
    refine ev_aload_n d_O_write_24 rfl rfl ?_
    obtain ⟨q5, K⟩ := K
    refine ev_callV (as := []) (st := []) (k := 10) (i := (a2.toNatClampNeg)) g_H_isLost ml_O_140 rfl rfl (by decide) b4 d_O_write_25 rfl rfl (Nat.le_of_ble_eq_true rfl) rfl (Nat.le_of_ble_eq_true rfl) ?_
    refine f_H_isLost b4 q5 ?_
    show Ev none (d + 3) m_O_write 28 [some (vR 0 0), some (vI a1), some (vI a2), some (vR 10 (a2.toNatClampNeg)), none, none] [vI (fn_H_isLost σ (a2.toNatClampNeg))] σ post
    refine ev_if_eq (tgt := 37) d_O_write_28 rfl (fun h6 => ?_) (fun h6 => ?_)
    · replace K := K.1 h6
      refine ev_aload_n d_O_write_37 rfl rfl ?_
      refine ev_getR gf_O_10 rfl (by decide) d_O_write_38 ?_
      refine ev_callV (as := []) (st := []) (k := 1) (i := 0) g_B_chapters ml_O_297 rfl rfl (by decide) (by decide) d_O_write_41 rfl rfl (Nat.le_of_ble_eq_true rfl) rfl (Nat.le_of_ble_eq_true rfl) ?_
      refine f_B_chapters  ?_
      show Ev none (d + 3) m_O_write 44 [some (vR 0 0), some (vI a1), some (vI a2), some (vR 10 (a2.toNatClampNeg)), none, none] [vI (fn_B_chapters σ)] σ post
      refine ev_aload_n d_O_write_44 rfl rfl ?_
      refine ev_callV (as := []) (st := [vI (fn_B_chapters σ)]) (k := 10) (i := (a2.toNatClampNeg)) g_H_size ml_O_147 rfl rfl (by decide) b4 d_O_write_45 rfl rfl (Nat.le_of_ble_eq_true rfl) rfl (Nat.le_of_ble_eq_true rfl) ?_
      refine f_H_size b4 ?_
      show Ev none (d + 3) m_O_write 48 [some (vR 0 0), some (vI a1), some (vI a2), some (vR 10 (a2.toNatClampNeg)), none, none] [vI (fn_H_size σ (a2.toNatClampNeg)), vI (fn_B_chapters σ)] σ post
      refine ev_mmin ml_O_148 (Nat.le_of_ble_eq_true rfl) d_O_write_48 ?_
      refine ev_istore (L' := [some (vR 0 0), some (vI a1), some (vI a2), some (vR 10 (a2.toNatClampNeg)), some (vI (imin (fn_B_chapters σ) (fn_H_size σ (a2.toNatClampNeg)))), none]) d_O_write_51 (by decide) rfl ?_
      refine ev_iconst (v := 0) d_O_write_53 (by decide) ?_
      refine ev_istore (L' := [some (vR 0 0), some (vI a1), some (vI a2), some (vR 10 (a2.toNatClampNeg)), some (vI (imin (fn_B_chapters σ) (fn_H_size σ (a2.toNatClampNeg)))), some (vI (0 : Int32))]) d_O_write_54 (by decide) rfl ?_
      exact Ev.wk (lsub_kp (lsub_kp (lsub_sk (lsub_kp (lsub_kp (lsub_kp (lsub_nil))))))) K
    · replace K := K.2 h6
      refine ev_aload_n d_O_write_31 rfl rfl ?_
      refine ev_iconst (v := 1) d_O_write_32 (by decide) ?_
      refine ev_callV (as := [vI (1 : Int32)]) (st := []) (k := 0) (i := 0) g_O_found ml_O_144 rfl rfl (by decide) (by decide) d_O_write_33 rfl rfl (Nat.le_of_ble_eq_true rfl) rfl (Nat.le_of_ble_eq_true rfl) ?_
      refine Ev.mono K ?_
      rintro _ s7 ⟨z8, rfl, K⟩
      show Ev none (d + 3) m_O_write 36 [some (vR 0 0), some (vI a1), some (vI a2), some (vR 10 (a2.toNatClampNeg)), none, none] [vI z8] s7 post
      exact ev_ret (r := some (vI z8)) d_O_write_36 rfl rfl K
  have J0 : w1 = 0 → Ev none (d + 3) m_O_write 14 [some (vR 0 0), some (vI a1), some (vI a2), none, none, none] [] σ post := by
    intro e20
    replace K := K.2 (bi_0.mp ((e2.symm).trans e20))
    refine ev_bipush (v := -2) d_O_write_14 (by decide) ?_
    exact ev_ret (r := some (vI (-2 : Int32))) d_O_write_16 rfl rfl K
  clear K
  refine ev_ifb_eq (tgt := 14) d_O_write_4 rfl (fun h9 => ?_) (fun h9 => ?_)
  · rw [b3f h9] at e2
    exact J0 e2
  · rw [b3t h9] at e2
    refine ev_iload_n d_O_write_7 rfl rfl ?_
    refine ev_callS (as := [vI a2]) (st := []) g_O_isSheet ml_O_137 d_O_write_8 rfl rfl (Nat.le_of_ble_eq_true rfl) rfl (Nat.le_of_ble_eq_true rfl) ?_
    refine f_O_isSheet  ?_
    show Ev none (d + 3) m_O_write 11 [some (vR 0 0), some (vI a1), some (vI a2), none, none, none] [vI (bi (fp_O_isSheet σ a2))] σ post
    refine ev_ifb_ne (tgt := 17) d_O_write_11 rfl (fun h10 => ?_) (fun h10 => ?_)
    · rw [bi_t h10] at e2
      exact J1 e2
    · rw [bi_f h10] at e2
      exact J0 e2
set_option maxRecDepth 4000 in
theorem sg_O_write_56 {d : Nat} {σ : ST} {a1 : Int32} {i3 : Nat} {a4 : Int32} {a5 : Int32} {post : Option AV → ST → Prop} (hi3 : i3 < 4) (K : ((a4 ≤ a5) → (post (some (vI a4)) σ)) ∧ (¬ (a4 ≤ a5) → ((fs_C_minutes σ a1 a5) ∧ (Ev none (d + 2) m_H_put 0 [some (vR 10 i3), some (vI a5), some (vI (fn_C_minutes σ a1 a5))] [] σ (fun r s3 => r = none ∧ (Ev none (d + 3) m_O_write 56 [some (vR 0 0), some (vI a1), none, some (vR 10 i3), some (vI a4), some (vI (a5 + (1 : Int32)))] [] s3 post)))))) : Ev none (d + 3) m_O_write 56 [some (vR 0 0), some (vI a1), none, some (vR 10 i3), some (vI a4), some (vI a5)] [] σ post := by
  refine ev_iload d_O_write_56 rfl ?_
  refine ev_iload d_O_write_58 rfl ?_
  refine ev_icmp_ge (tgt := 85) d_O_write_60 rfl (fun h1 => ?_) (fun h1 => ?_)
  · replace K := K.1 h1
    refine ev_iload d_O_write_85 rfl ?_
    exact ev_ret (r := some (vI a4)) d_O_write_87 rfl rfl K
  · replace K := K.2 h1
    refine ev_aload_n d_O_write_63 rfl rfl ?_
    refine ev_iload d_O_write_64 rfl ?_
    refine ev_aload_n d_O_write_66 rfl rfl ?_
    refine ev_getR gf_O_21 rfl (by decide) d_O_write_67 ?_
    refine ev_iload_n d_O_write_70 rfl rfl ?_
    refine ev_iload d_O_write_71 rfl ?_
    obtain ⟨q2, K⟩ := K
    refine ev_callV (as := [vI a1, vI a5]) (st := [vI a5, vR 10 i3]) (k := 2) (i := 0) g_C_minutes ml_O_169 rfl rfl (by decide) (by decide) d_O_write_73 rfl rfl (Nat.le_of_ble_eq_true rfl) rfl (Nat.le_of_ble_eq_true rfl) ?_
    refine f_C_minutes q2 ?_
    show Ev none (d + 3) m_O_write 76 [some (vR 0 0), some (vI a1), none, some (vR 10 i3), some (vI a4), some (vI a5)] [vI (fn_C_minutes σ a1 a5), vI a5, vR 10 i3] σ post
    refine ev_callV (as := [vI a5, vI (fn_C_minutes σ a1 a5)]) (st := []) (k := 10) (i := i3) g_H_put ml_O_283 rfl rfl (by decide) hi3 d_O_write_76 rfl rfl (Nat.le_of_ble_eq_true rfl) rfl (Nat.le_of_ble_eq_true rfl) ?_
    refine Ev.mono K ?_
    rintro _ s3 ⟨rfl, K⟩
    show Ev none (d + 3) m_O_write 79 [some (vR 0 0), some (vI a1), none, some (vR 10 i3), some (vI a4), some (vI a5)] [] s3 post
    refine ev_iinc (v := a5 + (1 : Int32)) (L' := [some (vR 0 0), some (vI a1), none, some (vR 10 i3), some (vI a4), some (vI (a5 + (1 : Int32)))]) d_O_write_79 rfl (congrArg (a5 + ·) (by decide)) (by decide) rfl ?_
    refine ev_goto (tgt := 56) d_O_write_82 rfl ?_
    exact K
set_option maxRecDepth 4000 in
theorem sg_O_best_0 {d : Nat} {σ : ST} {a1 : Int32} {a2 : Int32} {a3 : Int32} {post : Option AV → ST → Prop} (K : (((fp_O_areTwo σ a1 a2) ∧ (fp_O_within σ a3 (0 : Int32) (2 : Int32))) → (Ev none (d + 3) m_P_search 0 [some (vR 5 0), some (vI a1), some (vI a2), some (vI (σ.1 0 0 9)), some (vI (σ.1 0 0 10)), none] [] σ (fun r s3 => r = none ∧ (((a3 = 0) → (post (some (vI (fn_P_lines s3))) s3)) ∧ (¬ (a3 = 0) → (((a3 = (1 : Int32)) → (post (some (vI (fn_P_waits s3))) s3)) ∧ (¬ (a3 = (1 : Int32)) → (post (some (vI (fn_P_minutes s3))) s3)))))))) ∧ (¬ ((fp_O_areTwo σ a1 a2) ∧ (fp_O_within σ a3 (0 : Int32) (2 : Int32))) → (post (some (vI (-2 : Int32))) σ))) : Ev none (d + 4) m_O_best 0 [some (vR 0 0), some (vI a1), some (vI a2), some (vI a3)] [] σ post := by
  refine ev_iload_n d_O_best_0 rfl rfl ?_
  refine ev_iload_n d_O_best_1 rfl rfl ?_
  refine ev_callS (as := [vI a1, vI a2]) (st := []) g_O_areTwo ml_O_198 d_O_best_2 rfl rfl (Nat.le_of_ble_eq_true rfl) rfl (Nat.le_of_ble_eq_true rfl) ?_
  refine f_O_areTwo  ?_
  show Ev none (d + 4) m_O_best 5 [some (vR 0 0), some (vI a1), some (vI a2), some (vI a3)] [vI (bi (fp_O_areTwo σ a1 a2))] σ post
  obtain ⟨w1, e2⟩ : ∃ w : Int32, w = bi ((fp_O_areTwo σ a1 a2) ∧ (fp_O_within σ a3 (0 : Int32) (2 : Int32))) := ⟨_, rfl⟩
  have J1 : w1 = 1 → Ev none (d + 4) m_O_best 20 [some (vR 0 0), some (vI a1), some (vI a2), some (vI a3)] [] σ post := by
    intro e21
    replace K := K.1 (bi_1.mp ((e2.symm).trans e21))
    refine ev_aload_n d_O_best_20 rfl rfl ?_
    refine ev_getR gf_O_37 rfl (by decide) d_O_best_21 ?_
    refine ev_iload_n d_O_best_24 rfl rfl ?_
    refine ev_iload_n d_O_best_25 rfl rfl ?_
    refine ev_aload_n d_O_best_26 rfl rfl ?_
    refine ev_getI gf_O_76 rfl (by decide) d_O_best_27 ?_
    refine ev_aload_n d_O_best_30 rfl rfl ?_
    refine ev_getI gf_O_80 rfl (by decide) d_O_best_31 ?_
    refine ev_callV (as := [vI a1, vI a2, vI (σ.1 0 0 9), vI (σ.1 0 0 10)]) (st := []) (k := 5) (i := 0) g_P_search ml_O_201 rfl rfl (by decide) (by decide) d_O_best_34 rfl rfl (Nat.le_of_ble_eq_true rfl) rfl (Nat.le_of_ble_eq_true rfl) ?_
    refine Ev.mono K ?_
    rintro _ s3 ⟨rfl, K⟩
    show Ev none (d + 4) m_O_best 37 [some (vR 0 0), some (vI a1), some (vI a2), some (vI a3)] [] s3 post
    refine ev_iload_n d_O_best_37 rfl rfl ?_
    refine ev_if_ne (tgt := 49) d_O_best_38 rfl (fun h4 => ?_) (fun h4 => ?_)
    · replace K := K.2 h4
      refine ev_iload_n d_O_best_49 rfl rfl ?_
      refine ev_iconst (v := 1) d_O_best_50 (by decide) ?_
      refine ev_icmp_ne (tgt := 64) d_O_best_51 rfl (fun h5 => ?_) (fun h5 => ?_)
      · replace K := K.2 h5
        refine ev_aload_n d_O_best_64 rfl rfl ?_
        refine ev_getR gf_O_37 rfl (by decide) d_O_best_65 ?_
        refine ev_callV (as := []) (st := []) (k := 5) (i := 0) g_P_minutes ml_O_211 rfl rfl (by decide) (by decide) d_O_best_68 rfl rfl (Nat.le_of_ble_eq_true rfl) rfl (Nat.le_of_ble_eq_true rfl) ?_
        refine f_P_minutes  ?_
        show Ev none (d + 4) m_O_best 71 [some (vR 0 0), some (vI a1), some (vI a2), some (vI a3)] [vI (fn_P_minutes s3)] s3 post
        exact ev_ret (r := some (vI (fn_P_minutes s3))) d_O_best_71 rfl rfl K
      · replace K := K.1 h5
        refine ev_aload_n d_O_best_54 rfl rfl ?_
        refine ev_getR gf_O_37 rfl (by decide) d_O_best_55 ?_
        refine ev_callV (as := []) (st := []) (k := 5) (i := 0) g_P_waits ml_O_208 rfl rfl (by decide) (by decide) d_O_best_58 rfl rfl (Nat.le_of_ble_eq_true rfl) rfl (Nat.le_of_ble_eq_true rfl) ?_
        refine f_P_waits  ?_
        show Ev none (d + 4) m_O_best 61 [some (vR 0 0), some (vI a1), some (vI a2), some (vI a3)] [vI (fn_P_waits s3)] s3 post
        refine ev_goto (tgt := 71) d_O_best_61 rfl ?_
        exact ev_ret (r := some (vI (fn_P_waits s3))) d_O_best_71 rfl rfl K
    · replace K := K.1 h4
      refine ev_aload_n d_O_best_41 rfl rfl ?_
      refine ev_getR gf_O_37 rfl (by decide) d_O_best_42 ?_
      refine ev_callV (as := []) (st := []) (k := 5) (i := 0) g_P_lines ml_O_205 rfl rfl (by decide) (by decide) d_O_best_45 rfl rfl (Nat.le_of_ble_eq_true rfl) rfl (Nat.le_of_ble_eq_true rfl) ?_
      refine f_P_lines  ?_
      show Ev none (d + 4) m_O_best 48 [some (vR 0 0), some (vI a1), some (vI a2), some (vI a3)] [vI (fn_P_lines s3)] s3 post
      exact ev_ret (r := some (vI (fn_P_lines s3))) d_O_best_48 rfl rfl K
  have J0 : w1 = 0 → Ev none (d + 4) m_O_best 17 [some (vR 0 0), some (vI a1), some (vI a2), some (vI a3)] [] σ post := by
    intro e20
    replace K := K.2 (bi_0.mp ((e2.symm).trans e20))
    refine ev_bipush (v := -2) d_O_best_17 (by decide) ?_
    exact ev_ret (r := some (vI (-2 : Int32))) d_O_best_19 rfl rfl K
  clear K
  refine ev_ifb_eq (tgt := 17) d_O_best_5 rfl (fun h6 => ?_) (fun h6 => ?_)
  · rw [b3f h6] at e2
    exact J0 e2
  · rw [b3t h6] at e2
    refine ev_iload_n d_O_best_8 rfl rfl ?_
    refine ev_iconst (v := 0) d_O_best_9 (by decide) ?_
    refine ev_iconst (v := 2) d_O_best_10 (by decide) ?_
    refine ev_callS (as := [vI a3, vI (0 : Int32), vI (2 : Int32)]) (st := []) g_O_within ml_O_86 d_O_best_11 rfl rfl (Nat.le_of_ble_eq_true rfl) rfl (Nat.le_of_ble_eq_true rfl) ?_
    refine f_O_within  ?_
    show Ev none (d + 4) m_O_best 14 [some (vR 0 0), some (vI a1), some (vI a2), some (vI a3)] [vI (bi (fp_O_within σ a3 (0 : Int32) (2 : Int32)))] σ post
    refine ev_ifb_ne (tgt := 20) d_O_best_14 rfl (fun h7 => ?_) (fun h7 => ?_)
    · rw [bi_t h7] at e2
      exact J1 e2
    · rw [bi_f h7] at e2
      exact J0 e2
set_option maxRecDepth 4000 in
theorem sg_O_gain_0 {d : Nat} {σ : ST} {a1 : Int32} {a2 : Int32} {a3 : Int32} {a4 : Int32} {post : Option AV → ST → Prop} (K : (((fp_O_areTwo σ a1 a2) ∧ ((fp_O_within σ a3 (0 : Int32) (3 : Int32)) ∧ (fp_O_within σ a4 (0 : Int32) (3 : Int32)))) → (Ev none (d + 3) m_S_gainOf 0 [some (vR 6 0), some (vI a1), some (vI a2), some (vI a3), some (vI a4), none, none, none, none] [] σ (fun r s3 => ∃ z4 : Int32, r = some (vI z4) ∧ (post (some (vI z4)) s3)))) ∧ (¬ ((fp_O_areTwo σ a1 a2) ∧ ((fp_O_within σ a3 (0 : Int32) (3 : Int32)) ∧ (fp_O_within σ a4 (0 : Int32) (3 : Int32)))) → (post (some (vI (-10002 : Int32))) σ))) : Ev none (d + 4) m_O_gain 0 [some (vR 0 0), some (vI a1), some (vI a2), some (vI a3), some (vI a4)] [] σ post := by
  refine ev_iload_n d_O_gain_0 rfl rfl ?_
  refine ev_iload_n d_O_gain_1 rfl rfl ?_
  refine ev_callS (as := [vI a1, vI a2]) (st := []) g_O_areTwo ml_O_198 d_O_gain_2 rfl rfl (Nat.le_of_ble_eq_true rfl) rfl (Nat.le_of_ble_eq_true rfl) ?_
  refine f_O_areTwo  ?_
  show Ev none (d + 4) m_O_gain 5 [some (vR 0 0), some (vI a1), some (vI a2), some (vI a3), some (vI a4)] [vI (bi (fp_O_areTwo σ a1 a2))] σ post
  obtain ⟨w1, e2⟩ : ∃ w : Int32, w = bi ((fp_O_areTwo σ a1 a2) ∧ ((fp_O_within σ a3 (0 : Int32) (3 : Int32)) ∧ (fp_O_within σ a4 (0 : Int32) (3 : Int32)))) := ⟨_, rfl⟩
  have J1 : w1 = 1 → Ev none (d + 4) m_O_gain 31 [some (vR 0 0), some (vI a1), some (vI a2), some (vI a3), some (vI a4)] [] σ post := by
    intro e21
    replace K := K.1 (bi_1.mp ((e2.symm).trans e21))
    refine ev_aload_n d_O_gain_31 rfl rfl ?_
    refine ev_getR gf_O_44 rfl (by decide) d_O_gain_32 ?_
    refine ev_iload_n d_O_gain_35 rfl rfl ?_
    refine ev_iload_n d_O_gain_36 rfl rfl ?_
    refine ev_iload_n d_O_gain_37 rfl rfl ?_
    refine ev_iload d_O_gain_38 rfl ?_
    refine ev_callV (as := [vI a1, vI a2, vI a3, vI a4]) (st := []) (k := 6) (i := 0) g_S_gainOf ml_O_216 rfl rfl (by decide) (by decide) d_O_gain_40 rfl rfl (Nat.le_of_ble_eq_true rfl) rfl (Nat.le_of_ble_eq_true rfl) ?_
    refine Ev.mono K ?_
    rintro _ s3 ⟨z4, rfl, K⟩
    show Ev none (d + 4) m_O_gain 43 [some (vR 0 0), some (vI a1), some (vI a2), some (vI a3), some (vI a4)] [vI z4] s3 post
    exact ev_ret (r := some (vI z4)) d_O_gain_43 rfl rfl K
  have J0 : w1 = 0 → Ev none (d + 4) m_O_gain 27 [some (vR 0 0), some (vI a1), some (vI a2), some (vI a3), some (vI a4)] [] σ post := by
    intro e20
    replace K := K.2 (bi_0.mp ((e2.symm).trans e20))
    refine ev_sipush (v := -10002) d_O_gain_27 (by decide) ?_
    exact ev_ret (r := some (vI (-10002 : Int32))) d_O_gain_30 rfl rfl K
  clear K
  refine ev_ifb_eq (tgt := 27) d_O_gain_5 rfl (fun h5 => ?_) (fun h5 => ?_)
  · rw [b3f h5] at e2
    exact J0 e2
  · rw [b3t h5] at e2
    refine ev_iload_n d_O_gain_8 rfl rfl ?_
    refine ev_iconst (v := 0) d_O_gain_9 (by decide) ?_
    refine ev_iconst (v := 3) d_O_gain_10 (by decide) ?_
    refine ev_callS (as := [vI a3, vI (0 : Int32), vI (3 : Int32)]) (st := []) g_O_within ml_O_86 d_O_gain_11 rfl rfl (Nat.le_of_ble_eq_true rfl) rfl (Nat.le_of_ble_eq_true rfl) ?_
    refine f_O_within  ?_
    show Ev none (d + 4) m_O_gain 14 [some (vR 0 0), some (vI a1), some (vI a2), some (vI a3), some (vI a4)] [vI (bi (fp_O_within σ a3 (0 : Int32) (3 : Int32)))] σ post
    refine ev_ifb_eq (tgt := 27) d_O_gain_14 rfl (fun h6 => ?_) (fun h6 => ?_)
    · rw [b3f h6] at e2
      exact J0 e2
    · rw [b3t h6] at e2
      refine ev_iload d_O_gain_17 rfl ?_
      refine ev_iconst (v := 0) d_O_gain_19 (by decide) ?_
      refine ev_iconst (v := 3) d_O_gain_20 (by decide) ?_
      refine ev_callS (as := [vI a4, vI (0 : Int32), vI (3 : Int32)]) (st := []) g_O_within ml_O_86 d_O_gain_21 rfl rfl (Nat.le_of_ble_eq_true rfl) rfl (Nat.le_of_ble_eq_true rfl) ?_
      refine f_O_within  ?_
      show Ev none (d + 4) m_O_gain 24 [some (vR 0 0), some (vI a1), some (vI a2), some (vI a3), some (vI a4)] [vI (bi (fp_O_within σ a4 (0 : Int32) (3 : Int32)))] σ post
      refine ev_ifb_ne (tgt := 31) d_O_gain_24 rfl (fun h7 => ?_) (fun h7 => ?_)
      · rw [bi_t h7] at e2
        exact J1 e2
      · rw [bi_f h7] at e2
        exact J0 e2
set_option maxRecDepth 4000 in
theorem sg_O_how_0 {d : Nat} {σ : ST} {a1 : Int32} {a2 : Int32} {a3 : Int32} {post : Option AV → ST → Prop} (K : (((fp_O_areTwo σ a1 a2) ∧ (fp_O_isChapter σ a3)) → (Ev none (d + 3) m_P_search 0 [some (vR 5 0), some (vI a1), some (vI a2), some (vI (σ.1 0 0 9)), some (vI (σ.1 0 0 10)), none] [] σ (fun r s3 => r = none ∧ ((fs_P_wayOf s3 a3) ∧ (post (some (vI (fn_P_wayOf s3 a3))) s3))))) ∧ (¬ ((fp_O_areTwo σ a1 a2) ∧ (fp_O_isChapter σ a3)) → (post (some (vI (-2 : Int32))) σ))) : Ev none (d + 4) m_O_how 0 [some (vR 0 0), some (vI a1), some (vI a2), some (vI a3)] [] σ post := by
  refine ev_iload_n d_O_how_0 rfl rfl ?_
  refine ev_iload_n d_O_how_1 rfl rfl ?_
  refine ev_callS (as := [vI a1, vI a2]) (st := []) g_O_areTwo ml_O_198 d_O_how_2 rfl rfl (Nat.le_of_ble_eq_true rfl) rfl (Nat.le_of_ble_eq_true rfl) ?_
  refine f_O_areTwo  ?_
  show Ev none (d + 4) m_O_how 5 [some (vR 0 0), some (vI a1), some (vI a2), some (vI a3)] [vI (bi (fp_O_areTwo σ a1 a2))] σ post
  obtain ⟨w1, e2⟩ : ∃ w : Int32, w = bi ((fp_O_areTwo σ a1 a2) ∧ (fp_O_isChapter σ a3)) := ⟨_, rfl⟩
  have J1 : w1 = 1 → Ev none (d + 4) m_O_how 19 [some (vR 0 0), some (vI a1), some (vI a2), some (vI a3)] [] σ post := by
    intro e21
    replace K := K.1 (bi_1.mp ((e2.symm).trans e21))
    refine ev_aload_n d_O_how_19 rfl rfl ?_
    refine ev_getR gf_O_37 rfl (by decide) d_O_how_20 ?_
    refine ev_iload_n d_O_how_23 rfl rfl ?_
    refine ev_iload_n d_O_how_24 rfl rfl ?_
    refine ev_aload_n d_O_how_25 rfl rfl ?_
    refine ev_getI gf_O_76 rfl (by decide) d_O_how_26 ?_
    refine ev_aload_n d_O_how_29 rfl rfl ?_
    refine ev_getI gf_O_80 rfl (by decide) d_O_how_30 ?_
    refine ev_callV (as := [vI a1, vI a2, vI (σ.1 0 0 9), vI (σ.1 0 0 10)]) (st := []) (k := 5) (i := 0) g_P_search ml_O_201 rfl rfl (by decide) (by decide) d_O_how_33 rfl rfl (Nat.le_of_ble_eq_true rfl) rfl (Nat.le_of_ble_eq_true rfl) ?_
    refine Ev.mono K ?_
    rintro _ s3 ⟨rfl, K⟩
    show Ev none (d + 4) m_O_how 36 [some (vR 0 0), some (vI a1), some (vI a2), some (vI a3)] [] s3 post
    refine ev_aload_n d_O_how_36 rfl rfl ?_
    refine ev_getR gf_O_37 rfl (by decide) d_O_how_37 ?_
    refine ev_iload_n d_O_how_40 rfl rfl ?_
    obtain ⟨q4, K⟩ := K
    refine ev_callV (as := [vI a3]) (st := []) (k := 5) (i := 0) g_P_wayOf ml_O_213 rfl rfl (by decide) (by decide) d_O_how_41 rfl rfl (Nat.le_of_ble_eq_true rfl) rfl (Nat.le_of_ble_eq_true rfl) ?_
    refine f_P_wayOf q4 ?_
    show Ev none (d + 4) m_O_how 44 [some (vR 0 0), some (vI a1), some (vI a2), some (vI a3)] [vI (fn_P_wayOf s3 a3)] s3 post
    exact ev_ret (r := some (vI (fn_P_wayOf s3 a3))) d_O_how_44 rfl rfl K
  have J0 : w1 = 0 → Ev none (d + 4) m_O_how 16 [some (vR 0 0), some (vI a1), some (vI a2), some (vI a3)] [] σ post := by
    intro e20
    replace K := K.2 (bi_0.mp ((e2.symm).trans e20))
    refine ev_bipush (v := -2) d_O_how_16 (by decide) ?_
    exact ev_ret (r := some (vI (-2 : Int32))) d_O_how_18 rfl rfl K
  clear K
  refine ev_ifb_eq (tgt := 16) d_O_how_5 rfl (fun h5 => ?_) (fun h5 => ?_)
  · rw [b3f h5] at e2
    exact J0 e2
  · rw [b3t h5] at e2
    refine ev_aload_n d_O_how_8 rfl rfl ?_
    refine ev_iload_n d_O_how_9 rfl rfl ?_
    refine ev_callV (as := [vI a3]) (st := []) (k := 0) (i := 0) g_O_isChapter ml_O_104 rfl rfl (by decide) (by decide) d_O_how_10 rfl rfl (Nat.le_of_ble_eq_true rfl) rfl (Nat.le_of_ble_eq_true rfl) ?_
    refine f_O_isChapter  ?_
    show Ev none (d + 4) m_O_how 13 [some (vR 0 0), some (vI a1), some (vI a2), some (vI a3)] [vI (bi (fp_O_isChapter σ a3))] σ post
    refine ev_ifb_ne (tgt := 19) d_O_how_13 rfl (fun h6 => ?_) (fun h6 => ?_)
    · rw [bi_t h6] at e2
      exact J1 e2
    · rw [bi_f h6] at e2
      exact J0 e2
set_option maxRecDepth 4000 in
theorem sg_O_unlike_0 {d : Nat} {σ : ST}  {post : Option AV → ST → Prop} (K : Ev none (d + 3) m_U_countUnlike 0 [some (vR 8 0), none, none] [] σ (fun r s1 => ∃ z2 : Int32, r = some (vI z2) ∧ (post (some (vI z2)) s1))) : Ev none (d + 4) m_O_unlike 0 [some (vR 0 0)] [] σ post := by
  refine ev_aload_n d_O_unlike_0 rfl rfl ?_
  refine ev_getR gf_O_58 rfl (by decide) d_O_unlike_1 ?_
  refine ev_callV (as := []) (st := []) (k := 8) (i := 0) g_U_countUnlike ml_O_250 rfl rfl (by decide) (by decide) d_O_unlike_4 rfl rfl (Nat.le_of_ble_eq_true rfl) rfl (Nat.le_of_ble_eq_true rfl) ?_
  refine Ev.mono K ?_
  rintro _ s1 ⟨z2, rfl, K⟩
  show Ev none (d + 4) m_O_unlike 7 [some (vR 0 0)] [vI z2] s1 post
  exact ev_ret (r := some (vI z2)) d_O_unlike_7 rfl rfl K
set_option maxRecDepth 4000 in
theorem sg_O_done_0 {d : Nat} {σ : ST} {a1 : Int32} {a2 : Int32} {a3 : Int32} {post : Option AV → ST → Prop} (K : ((fp_O_isCompany σ a1) → (((fp_O_within σ a2 (0 : Int32) (9999 : Int32)) → (((fp_O_within σ a3 (0 : Int32) (1 : Int32)) → ((((fn_J_bitCount σ a1) ≤ (3 : Int32)) → (Ev none (d + 4) m_D_chanceBy 0 [some (vR 9 0), some (vI a1), some (vI a2), none, none, none, none, none, none] [] σ (fun r s5 => r = none ∧ (((a3 = 0) → (post (some (vJ (fn_D_above s5))) s5)) ∧ (¬ (a3 = 0) → (post (some (vJ (fn_D_below s5))) s5)))))) ∧ (¬ ((fn_J_bitCount σ a1) ≤ (3 : Int32)) → (post (some (vJ (fn_O_refusedLong σ (-4 : Int32)))) σ)))) ∧ (¬ (fp_O_within σ a3 (0 : Int32) (1 : Int32)) → (post (some (vJ (fn_O_refusedLong σ (-2 : Int32)))) σ)))) ∧ (¬ (fp_O_within σ a2 (0 : Int32) (9999 : Int32)) → (post (some (vJ (fn_O_refusedLong σ (-2 : Int32)))) σ)))) ∧ (¬ (fp_O_isCompany σ a1) → (post (some (vJ (fn_O_refusedLong σ (-2 : Int32)))) σ))) : Ev none (d + 5) m_O_done 0 [some (vR 0 0), some (vI a1), some (vI a2), some (vI a3)] [] σ post := by
  refine ev_iload_n d_O_done_0 rfl rfl ?_
  refine ev_callS (as := [vI a1]) (st := []) g_O_isCompany ml_O_172 d_O_done_1 rfl rfl (Nat.le_of_ble_eq_true rfl) rfl (Nat.le_of_ble_eq_true rfl) ?_
  refine f_O_isCompany  ?_
  show Ev none (d + 5) m_O_done 4 [some (vR 0 0), some (vI a1), some (vI a2), some (vI a3)] [vI (bi (fp_O_isCompany σ a1))] σ post
  refine ev_ifb_eq (tgt := 27) d_O_done_4 rfl (fun h1 => ?_) (fun h1 => ?_)
  · replace K := K.2 h1
    refine ev_bipush (v := -2) d_O_done_27 (by decide) ?_
    refine ev_callS (as := [vI (-2 : Int32)]) (st := []) g_O_refusedLong ml_O_253 d_O_done_29 rfl rfl (Nat.le_of_ble_eq_true rfl) rfl (Nat.le_of_ble_eq_true rfl) ?_
    refine f_O_refusedLong  ?_
    show Ev none (d + 5) m_O_done 32 [some (vR 0 0), some (vI a1), some (vI a2), some (vI a3)] [vJ (fn_O_refusedLong σ (-2 : Int32))] σ post
    exact ev_ret (r := some (vJ (fn_O_refusedLong σ (-2 : Int32)))) d_O_done_32 rfl rfl K
  · replace K := K.1 h1
    refine ev_iload_n d_O_done_7 rfl rfl ?_
    refine ev_iconst (v := 0) d_O_done_8 (by decide) ?_
    refine ev_sipush (v := 9999) d_O_done_9 (by decide) ?_
    refine ev_callS (as := [vI a2, vI (0 : Int32), vI (9999 : Int32)]) (st := []) g_O_within ml_O_86 d_O_done_12 rfl rfl (Nat.le_of_ble_eq_true rfl) rfl (Nat.le_of_ble_eq_true rfl) ?_
    refine f_O_within  ?_
    show Ev none (d + 5) m_O_done 15 [some (vR 0 0), some (vI a1), some (vI a2), some (vI a3)] [vI (bi (fp_O_within σ a2 (0 : Int32) (9999 : Int32)))] σ post
    refine ev_ifb_eq (tgt := 27) d_O_done_15 rfl (fun h2 => ?_) (fun h2 => ?_)
    · replace K := K.2 h2
      refine ev_bipush (v := -2) d_O_done_27 (by decide) ?_
      refine ev_callS (as := [vI (-2 : Int32)]) (st := []) g_O_refusedLong ml_O_253 d_O_done_29 rfl rfl (Nat.le_of_ble_eq_true rfl) rfl (Nat.le_of_ble_eq_true rfl) ?_
      refine f_O_refusedLong  ?_
      show Ev none (d + 5) m_O_done 32 [some (vR 0 0), some (vI a1), some (vI a2), some (vI a3)] [vJ (fn_O_refusedLong σ (-2 : Int32))] σ post
      exact ev_ret (r := some (vJ (fn_O_refusedLong σ (-2 : Int32)))) d_O_done_32 rfl rfl K
    · replace K := K.1 h2
      refine ev_iload_n d_O_done_18 rfl rfl ?_
      refine ev_iconst (v := 0) d_O_done_19 (by decide) ?_
      refine ev_iconst (v := 1) d_O_done_20 (by decide) ?_
      refine ev_callS (as := [vI a3, vI (0 : Int32), vI (1 : Int32)]) (st := []) g_O_within ml_O_86 d_O_done_21 rfl rfl (Nat.le_of_ble_eq_true rfl) rfl (Nat.le_of_ble_eq_true rfl) ?_
      refine f_O_within  ?_
      show Ev none (d + 5) m_O_done 24 [some (vR 0 0), some (vI a1), some (vI a2), some (vI a3)] [vI (bi (fp_O_within σ a3 (0 : Int32) (1 : Int32)))] σ post
      refine ev_ifb_ne (tgt := 33) d_O_done_24 rfl (fun h3 => ?_) (fun h3 => ?_)
      · replace K := K.1 h3
        refine ev_iload_n d_O_done_33 rfl rfl ?_
        refine ev_callS (as := [vI a1]) (st := []) g_J_bitCount ml_O_230 d_O_done_34 rfl rfl (Nat.le_of_ble_eq_true rfl) rfl (Nat.le_of_ble_eq_true rfl) ?_
        refine f_J_bitCount  ?_
        show Ev none (d + 5) m_O_done 37 [some (vR 0 0), some (vI a1), some (vI a2), some (vI a3)] [vI (fn_J_bitCount σ a1)] σ post
        refine ev_iconst (v := 3) d_O_done_37 (by decide) ?_
        refine ev_icmp_le (tgt := 47) d_O_done_38 rfl (fun h4 => ?_) (fun h4 => ?_)
        · replace K := K.1 h4
          refine ev_aload_n d_O_done_47 rfl rfl ?_
          refine ev_getR gf_O_65 rfl (by decide) d_O_done_48 ?_
          refine ev_iload_n d_O_done_51 rfl rfl ?_
          refine ev_iload_n d_O_done_52 rfl rfl ?_
          refine ev_callV (as := [vI a1, vI a2]) (st := []) (k := 9) (i := 0) g_D_chanceBy ml_O_257 rfl rfl (by decide) (by decide) d_O_done_53 rfl rfl (Nat.le_of_ble_eq_true rfl) rfl (Nat.le_of_ble_eq_true rfl) ?_
          refine Ev.mono K ?_
          rintro _ s5 ⟨rfl, K⟩
          show Ev none (d + 5) m_O_done 56 [some (vR 0 0), some (vI a1), some (vI a2), some (vI a3)] [] s5 post
          refine ev_iload_n d_O_done_56 rfl rfl ?_
          refine ev_if_ne (tgt := 70) d_O_done_57 rfl (fun h6 => ?_) (fun h6 => ?_)
          · replace K := K.2 h6
            refine ev_aload_n d_O_done_70 rfl rfl ?_
            refine ev_getR gf_O_65 rfl (by decide) d_O_done_71 ?_
            refine ev_callV (as := []) (st := []) (k := 9) (i := 0) g_D_below ml_O_264 rfl rfl (by decide) (by decide) d_O_done_74 rfl rfl (Nat.le_of_ble_eq_true rfl) rfl (Nat.le_of_ble_eq_true rfl) ?_
            refine f_D_below  ?_
            show Ev none (d + 5) m_O_done 77 [some (vR 0 0), some (vI a1), some (vI a2), some (vI a3)] [vJ (fn_D_below s5)] s5 post
            exact ev_ret (r := some (vJ (fn_D_below s5))) d_O_done_77 rfl rfl K
          · replace K := K.1 h6
            refine ev_aload_n d_O_done_60 rfl rfl ?_
            refine ev_getR gf_O_65 rfl (by decide) d_O_done_61 ?_
            refine ev_callV (as := []) (st := []) (k := 9) (i := 0) g_D_above ml_O_260 rfl rfl (by decide) (by decide) d_O_done_64 rfl rfl (Nat.le_of_ble_eq_true rfl) rfl (Nat.le_of_ble_eq_true rfl) ?_
            refine f_D_above  ?_
            show Ev none (d + 5) m_O_done 67 [some (vR 0 0), some (vI a1), some (vI a2), some (vI a3)] [vJ (fn_D_above s5)] s5 post
            refine ev_goto (tgt := 77) d_O_done_67 rfl ?_
            exact ev_ret (r := some (vJ (fn_D_above s5))) d_O_done_77 rfl rfl K
        · replace K := K.2 h4
          refine ev_bipush (v := -4) d_O_done_41 (by decide) ?_
          refine ev_callS (as := [vI (-4 : Int32)]) (st := []) g_O_refusedLong ml_O_253 d_O_done_43 rfl rfl (Nat.le_of_ble_eq_true rfl) rfl (Nat.le_of_ble_eq_true rfl) ?_
          refine f_O_refusedLong  ?_
          show Ev none (d + 5) m_O_done 46 [some (vR 0 0), some (vI a1), some (vI a2), some (vI a3)] [vJ (fn_O_refusedLong σ (-4 : Int32))] σ post
          exact ev_ret (r := some (vJ (fn_O_refusedLong σ (-4 : Int32)))) d_O_done_46 rfl rfl K
      · replace K := K.2 h3
        refine ev_bipush (v := -2) d_O_done_27 (by decide) ?_
        refine ev_callS (as := [vI (-2 : Int32)]) (st := []) g_O_refusedLong ml_O_253 d_O_done_29 rfl rfl (Nat.le_of_ble_eq_true rfl) rfl (Nat.le_of_ble_eq_true rfl) ?_
        refine f_O_refusedLong  ?_
        show Ev none (d + 5) m_O_done 32 [some (vR 0 0), some (vI a1), some (vI a2), some (vI a3)] [vJ (fn_O_refusedLong σ (-2 : Int32))] σ post
        exact ev_ret (r := some (vJ (fn_O_refusedLong σ (-2 : Int32)))) d_O_done_32 rfl rfl K
set_option maxRecDepth 4000 in
theorem sg_O_evening_0 {d : Nat} {σ : ST} {a1 : Int32} {a2 : Int32} {a3 : Int32} {post : Option AV → ST → Prop} (K : (((fp_O_isCompany σ a1) ∧ ((fp_O_isChapter σ a2) ∧ (fp_O_within σ a3 (0 : Int32) (2 : Int32)))) → (Ev none (d + 4) m_E_sit 0 [some (vR 4 0), some (vI a1), some (vI a2), some (vI (σ.1 0 0 9)), none] [] σ (fun r s3 => r = none ∧ (((a3 = 0) → (post (some (vI (fn_E_chapters s3))) s3)) ∧ (¬ (a3 = 0) → (((a3 = (1 : Int32)) → (post (some (vI (fn_E_minute s3))) s3)) ∧ (¬ (a3 = (1 : Int32)) → (post (some (vI (fn_E_next s3))) s3)))))))) ∧ (¬ ((fp_O_isCompany σ a1) ∧ ((fp_O_isChapter σ a2) ∧ (fp_O_within σ a3 (0 : Int32) (2 : Int32)))) → (post (some (vI (-2 : Int32))) σ))) : Ev none (d + 5) m_O_evening 0 [some (vR 0 0), some (vI a1), some (vI a2), some (vI a3)] [] σ post := by
  refine ev_iload_n d_O_evening_0 rfl rfl ?_
  refine ev_callS (as := [vI a1]) (st := []) g_O_isCompany ml_O_172 d_O_evening_1 rfl rfl (Nat.le_of_ble_eq_true rfl) rfl (Nat.le_of_ble_eq_true rfl) ?_
  refine f_O_isCompany  ?_
  show Ev none (d + 5) m_O_evening 4 [some (vR 0 0), some (vI a1), some (vI a2), some (vI a3)] [vI (bi (fp_O_isCompany σ a1))] σ post
  obtain ⟨w1, e2⟩ : ∃ w : Int32, w = bi ((fp_O_isCompany σ a1) ∧ ((fp_O_isChapter σ a2) ∧ (fp_O_within σ a3 (0 : Int32) (2 : Int32)))) := ⟨_, rfl⟩
  have J1 : w1 = 1 → Ev none (d + 5) m_O_evening 27 [some (vR 0 0), some (vI a1), some (vI a2), some (vI a3)] [] σ post := by
    intro e21
    replace K := K.1 (bi_1.mp ((e2.symm).trans e21))
    refine ev_aload_n d_O_evening_27 rfl rfl ?_
    refine ev_getR gf_O_30 rfl (by decide) d_O_evening_28 ?_
    refine ev_iload_n d_O_evening_31 rfl rfl ?_
    refine ev_iload_n d_O_evening_32 rfl rfl ?_
    refine ev_aload_n d_O_evening_33 rfl rfl ?_
    refine ev_getI gf_O_76 rfl (by decide) d_O_evening_34 ?_
    refine ev_callV (as := [vI a1, vI a2, vI (σ.1 0 0 9)]) (st := []) (k := 4) (i := 0) g_E_sit ml_O_175 rfl rfl (by decide) (by decide) d_O_evening_37 rfl rfl (Nat.le_of_ble_eq_true rfl) rfl (Nat.le_of_ble_eq_true rfl) ?_
    refine Ev.mono K ?_
    rintro _ s3 ⟨rfl, K⟩
    show Ev none (d + 5) m_O_evening 40 [some (vR 0 0), some (vI a1), some (vI a2), some (vI a3)] [] s3 post
    refine ev_iload_n d_O_evening_40 rfl rfl ?_
    refine ev_if_ne (tgt := 52) d_O_evening_41 rfl (fun h4 => ?_) (fun h4 => ?_)
    · replace K := K.2 h4
      refine ev_iload_n d_O_evening_52 rfl rfl ?_
      refine ev_iconst (v := 1) d_O_evening_53 (by decide) ?_
      refine ev_icmp_ne (tgt := 67) d_O_evening_54 rfl (fun h5 => ?_) (fun h5 => ?_)
      · replace K := K.2 h5
        refine ev_aload_n d_O_evening_67 rfl rfl ?_
        refine ev_getR gf_O_30 rfl (by decide) d_O_evening_68 ?_
        refine ev_callV (as := []) (st := []) (k := 4) (i := 0) g_E_next ml_O_185 rfl rfl (by decide) (by decide) d_O_evening_71 rfl rfl (Nat.le_of_ble_eq_true rfl) rfl (Nat.le_of_ble_eq_true rfl) ?_
        refine f_E_next  ?_
        show Ev none (d + 5) m_O_evening 74 [some (vR 0 0), some (vI a1), some (vI a2), some (vI a3)] [vI (fn_E_next s3)] s3 post
        exact ev_ret (r := some (vI (fn_E_next s3))) d_O_evening_74 rfl rfl K
      · replace K := K.1 h5
        refine ev_aload_n d_O_evening_57 rfl rfl ?_
        refine ev_getR gf_O_30 rfl (by decide) d_O_evening_58 ?_
        refine ev_callV (as := []) (st := []) (k := 4) (i := 0) g_E_minute ml_O_182 rfl rfl (by decide) (by decide) d_O_evening_61 rfl rfl (Nat.le_of_ble_eq_true rfl) rfl (Nat.le_of_ble_eq_true rfl) ?_
        refine f_E_minute  ?_
        show Ev none (d + 5) m_O_evening 64 [some (vR 0 0), some (vI a1), some (vI a2), some (vI a3)] [vI (fn_E_minute s3)] s3 post
        refine ev_goto (tgt := 74) d_O_evening_64 rfl ?_
        exact ev_ret (r := some (vI (fn_E_minute s3))) d_O_evening_74 rfl rfl K
    · replace K := K.1 h4
      refine ev_aload_n d_O_evening_44 rfl rfl ?_
      refine ev_getR gf_O_30 rfl (by decide) d_O_evening_45 ?_
      refine ev_callV (as := []) (st := []) (k := 4) (i := 0) g_E_chapters ml_O_179 rfl rfl (by decide) (by decide) d_O_evening_48 rfl rfl (Nat.le_of_ble_eq_true rfl) rfl (Nat.le_of_ble_eq_true rfl) ?_
      refine f_E_chapters  ?_
      show Ev none (d + 5) m_O_evening 51 [some (vR 0 0), some (vI a1), some (vI a2), some (vI a3)] [vI (fn_E_chapters s3)] s3 post
      exact ev_ret (r := some (vI (fn_E_chapters s3))) d_O_evening_51 rfl rfl K
  have J0 : w1 = 0 → Ev none (d + 5) m_O_evening 24 [some (vR 0 0), some (vI a1), some (vI a2), some (vI a3)] [] σ post := by
    intro e20
    replace K := K.2 (bi_0.mp ((e2.symm).trans e20))
    refine ev_bipush (v := -2) d_O_evening_24 (by decide) ?_
    exact ev_ret (r := some (vI (-2 : Int32))) d_O_evening_26 rfl rfl K
  clear K
  refine ev_ifb_eq (tgt := 24) d_O_evening_4 rfl (fun h6 => ?_) (fun h6 => ?_)
  · rw [b3f h6] at e2
    exact J0 e2
  · rw [b3t h6] at e2
    refine ev_aload_n d_O_evening_7 rfl rfl ?_
    refine ev_iload_n d_O_evening_8 rfl rfl ?_
    refine ev_callV (as := [vI a2]) (st := []) (k := 0) (i := 0) g_O_isChapter ml_O_104 rfl rfl (by decide) (by decide) d_O_evening_9 rfl rfl (Nat.le_of_ble_eq_true rfl) rfl (Nat.le_of_ble_eq_true rfl) ?_
    refine f_O_isChapter  ?_
    show Ev none (d + 5) m_O_evening 12 [some (vR 0 0), some (vI a1), some (vI a2), some (vI a3)] [vI (bi (fp_O_isChapter σ a2))] σ post
    refine ev_ifb_eq (tgt := 24) d_O_evening_12 rfl (fun h7 => ?_) (fun h7 => ?_)
    · rw [b3f h7] at e2
      exact J0 e2
    · rw [b3t h7] at e2
      refine ev_iload_n d_O_evening_15 rfl rfl ?_
      refine ev_iconst (v := 0) d_O_evening_16 (by decide) ?_
      refine ev_iconst (v := 2) d_O_evening_17 (by decide) ?_
      refine ev_callS (as := [vI a3, vI (0 : Int32), vI (2 : Int32)]) (st := []) g_O_within ml_O_86 d_O_evening_18 rfl rfl (Nat.le_of_ble_eq_true rfl) rfl (Nat.le_of_ble_eq_true rfl) ?_
      refine f_O_within  ?_
      show Ev none (d + 5) m_O_evening 21 [some (vR 0 0), some (vI a1), some (vI a2), some (vI a3)] [vI (bi (fp_O_within σ a3 (0 : Int32) (2 : Int32)))] σ post
      refine ev_ifb_ne (tgt := 27) d_O_evening_21 rfl (fun h8 => ?_) (fun h8 => ?_)
      · rw [bi_t h8] at e2
        exact J1 e2
      · rw [bi_f h8] at e2
        exact J0 e2
set_option maxRecDepth 4000 in
theorem sg_O_mean_0 {d : Nat} {σ : ST} {a1 : Int32} {a2 : Int32} {post : Option AV → ST → Prop} (K : ((fp_O_isCompany σ a1) → (((fp_O_within σ a2 (0 : Int32) (1 : Int32)) → ((((fn_J_bitCount σ a1) ≤ (3 : Int32)) → (Ev none (d + 4) m_D_meanMinutes 0 [some (vR 9 0), some (vI a1), none, none, none, none] [] σ (fun r s4 => r = none ∧ (((a2 = 0) → (post (some (vJ (fn_D_above s4))) s4)) ∧ (¬ (a2 = 0) → (post (some (vJ (fn_D_below s4))) s4)))))) ∧ (¬ ((fn_J_bitCount σ a1) ≤ (3 : Int32)) → (post (some (vJ (fn_O_refusedLong σ (-4 : Int32)))) σ)))) ∧ (¬ (fp_O_within σ a2 (0 : Int32) (1 : Int32)) → (post (some (vJ (fn_O_refusedLong σ (-2 : Int32)))) σ)))) ∧ (¬ (fp_O_isCompany σ a1) → (post (some (vJ (fn_O_refusedLong σ (-2 : Int32)))) σ))) : Ev none (d + 5) m_O_mean 0 [some (vR 0 0), some (vI a1), some (vI a2)] [] σ post := by
  refine ev_iload_n d_O_mean_0 rfl rfl ?_
  refine ev_callS (as := [vI a1]) (st := []) g_O_isCompany ml_O_172 d_O_mean_1 rfl rfl (Nat.le_of_ble_eq_true rfl) rfl (Nat.le_of_ble_eq_true rfl) ?_
  refine f_O_isCompany  ?_
  show Ev none (d + 5) m_O_mean 4 [some (vR 0 0), some (vI a1), some (vI a2)] [vI (bi (fp_O_isCompany σ a1))] σ post
  refine ev_ifb_eq (tgt := 16) d_O_mean_4 rfl (fun h1 => ?_) (fun h1 => ?_)
  · replace K := K.2 h1
    refine ev_bipush (v := -2) d_O_mean_16 (by decide) ?_
    refine ev_callS (as := [vI (-2 : Int32)]) (st := []) g_O_refusedLong ml_O_253 d_O_mean_18 rfl rfl (Nat.le_of_ble_eq_true rfl) rfl (Nat.le_of_ble_eq_true rfl) ?_
    refine f_O_refusedLong  ?_
    show Ev none (d + 5) m_O_mean 21 [some (vR 0 0), some (vI a1), some (vI a2)] [vJ (fn_O_refusedLong σ (-2 : Int32))] σ post
    exact ev_ret (r := some (vJ (fn_O_refusedLong σ (-2 : Int32)))) d_O_mean_21 rfl rfl K
  · replace K := K.1 h1
    refine ev_iload_n d_O_mean_7 rfl rfl ?_
    refine ev_iconst (v := 0) d_O_mean_8 (by decide) ?_
    refine ev_iconst (v := 1) d_O_mean_9 (by decide) ?_
    refine ev_callS (as := [vI a2, vI (0 : Int32), vI (1 : Int32)]) (st := []) g_O_within ml_O_86 d_O_mean_10 rfl rfl (Nat.le_of_ble_eq_true rfl) rfl (Nat.le_of_ble_eq_true rfl) ?_
    refine f_O_within  ?_
    show Ev none (d + 5) m_O_mean 13 [some (vR 0 0), some (vI a1), some (vI a2)] [vI (bi (fp_O_within σ a2 (0 : Int32) (1 : Int32)))] σ post
    refine ev_ifb_ne (tgt := 22) d_O_mean_13 rfl (fun h2 => ?_) (fun h2 => ?_)
    · replace K := K.1 h2
      refine ev_iload_n d_O_mean_22 rfl rfl ?_
      refine ev_callS (as := [vI a1]) (st := []) g_J_bitCount ml_O_230 d_O_mean_23 rfl rfl (Nat.le_of_ble_eq_true rfl) rfl (Nat.le_of_ble_eq_true rfl) ?_
      refine f_J_bitCount  ?_
      show Ev none (d + 5) m_O_mean 26 [some (vR 0 0), some (vI a1), some (vI a2)] [vI (fn_J_bitCount σ a1)] σ post
      refine ev_iconst (v := 3) d_O_mean_26 (by decide) ?_
      refine ev_icmp_le (tgt := 36) d_O_mean_27 rfl (fun h3 => ?_) (fun h3 => ?_)
      · replace K := K.1 h3
        refine ev_aload_n d_O_mean_36 rfl rfl ?_
        refine ev_getR gf_O_65 rfl (by decide) d_O_mean_37 ?_
        refine ev_iload_n d_O_mean_40 rfl rfl ?_
        refine ev_callV (as := [vI a1]) (st := []) (k := 9) (i := 0) g_D_meanMinutes ml_O_267 rfl rfl (by decide) (by decide) d_O_mean_41 rfl rfl (Nat.le_of_ble_eq_true rfl) rfl (Nat.le_of_ble_eq_true rfl) ?_
        refine Ev.mono K ?_
        rintro _ s4 ⟨rfl, K⟩
        show Ev none (d + 5) m_O_mean 44 [some (vR 0 0), some (vI a1), some (vI a2)] [] s4 post
        refine ev_iload_n d_O_mean_44 rfl rfl ?_
        refine ev_if_ne (tgt := 58) d_O_mean_45 rfl (fun h5 => ?_) (fun h5 => ?_)
        · replace K := K.2 h5
          refine ev_aload_n d_O_mean_58 rfl rfl ?_
          refine ev_getR gf_O_65 rfl (by decide) d_O_mean_59 ?_
          refine ev_callV (as := []) (st := []) (k := 9) (i := 0) g_D_below ml_O_264 rfl rfl (by decide) (by decide) d_O_mean_62 rfl rfl (Nat.le_of_ble_eq_true rfl) rfl (Nat.le_of_ble_eq_true rfl) ?_
          refine f_D_below  ?_
          show Ev none (d + 5) m_O_mean 65 [some (vR 0 0), some (vI a1), some (vI a2)] [vJ (fn_D_below s4)] s4 post
          exact ev_ret (r := some (vJ (fn_D_below s4))) d_O_mean_65 rfl rfl K
        · replace K := K.1 h5
          refine ev_aload_n d_O_mean_48 rfl rfl ?_
          refine ev_getR gf_O_65 rfl (by decide) d_O_mean_49 ?_
          refine ev_callV (as := []) (st := []) (k := 9) (i := 0) g_D_above ml_O_260 rfl rfl (by decide) (by decide) d_O_mean_52 rfl rfl (Nat.le_of_ble_eq_true rfl) rfl (Nat.le_of_ble_eq_true rfl) ?_
          refine f_D_above  ?_
          show Ev none (d + 5) m_O_mean 55 [some (vR 0 0), some (vI a1), some (vI a2)] [vJ (fn_D_above s4)] s4 post
          refine ev_goto (tgt := 65) d_O_mean_55 rfl ?_
          exact ev_ret (r := some (vJ (fn_D_above s4))) d_O_mean_65 rfl rfl K
      · replace K := K.2 h3
        refine ev_bipush (v := -4) d_O_mean_30 (by decide) ?_
        refine ev_callS (as := [vI (-4 : Int32)]) (st := []) g_O_refusedLong ml_O_253 d_O_mean_32 rfl rfl (Nat.le_of_ble_eq_true rfl) rfl (Nat.le_of_ble_eq_true rfl) ?_
        refine f_O_refusedLong  ?_
        show Ev none (d + 5) m_O_mean 35 [some (vR 0 0), some (vI a1), some (vI a2)] [vJ (fn_O_refusedLong σ (-4 : Int32))] σ post
        exact ev_ret (r := some (vJ (fn_O_refusedLong σ (-4 : Int32)))) d_O_mean_35 rfl rfl K
    · replace K := K.2 h2
      refine ev_bipush (v := -2) d_O_mean_16 (by decide) ?_
      refine ev_callS (as := [vI (-2 : Int32)]) (st := []) g_O_refusedLong ml_O_253 d_O_mean_18 rfl rfl (Nat.le_of_ble_eq_true rfl) rfl (Nat.le_of_ble_eq_true rfl) ?_
      refine f_O_refusedLong  ?_
      show Ev none (d + 5) m_O_mean 21 [some (vR 0 0), some (vI a1), some (vI a2)] [vJ (fn_O_refusedLong σ (-2 : Int32))] σ post
      exact ev_ret (r := some (vJ (fn_O_refusedLong σ (-2 : Int32)))) d_O_mean_21 rfl rfl K
set_option maxRecDepth 4000 in
theorem sg_O_mixChapter_0 {d : Nat} {σ : ST} {a1 : Int64} {a3 : Int32} {post : Option AV → ST → Prop} (K : Ev none (d + 5) m_O_mixChapter 6 [some (vR 0 0), none, none, some (vI a3), some (vJ a1), none, some (vI (0 : Int32))] [] σ post) : Ev none (d + 5) m_O_mixChapter 0 [some (vR 0 0), some (vJ a1), none, some (vI a3), none, none, none] [] σ post := by
  refine ev_lload_n d_O_mixChapter_0 rfl rfl ?_
  refine ev_lstore (L' := [some (vR 0 0), some (vJ a1), none, some (vI a3), some (vJ a1), none, none]) d_O_mixChapter_1 (by decide) rfl ?_
  refine ev_iconst (v := 0) d_O_mixChapter_3 (by decide) ?_
  refine ev_istore (L' := [some (vR 0 0), some (vJ a1), none, some (vI a3), some (vJ a1), none, some (vI (0 : Int32))]) d_O_mixChapter_4 (by decide) rfl ?_
  exact Ev.wk (lsub_kp (lsub_sk (lsub_sk (lsub_kp (lsub_kp (lsub_sk (lsub_kp (lsub_nil)))))))) K
set_option maxRecDepth 4000 in
theorem sg_O_mixChapter_6 {d : Nat} {σ : ST} {a3 : Int32} {a4 : Int64} {a6 : Int32} {post : Option AV → ST → Prop} (K : (((2 : Int32) < a6) → (Ev none (d + 5) m_O_mixChapter 36 [some (vR 0 0), none, none, some (vI a3), some (vJ a4), none, some (vI (0 : Int32))] [] σ post)) ∧ (¬ ((2 : Int32) < a6) → ((fs_O_chapter σ a3 a6) ∧ (Ev none (d + 5) m_O_mixChapter 6 [some (vR 0 0), none, none, some (vI a3), some (vJ (fn_O_mix σ a4 (Int32.toInt64 (fn_O_chapter σ a3 a6)))), none, some (vI (a6 + (1 : Int32)))] [] σ post)))) : Ev none (d + 5) m_O_mixChapter 6 [some (vR 0 0), none, none, some (vI a3), some (vJ a4), none, some (vI a6)] [] σ post := by
  refine ev_iload d_O_mixChapter_6 rfl ?_
  refine ev_iconst (v := 2) d_O_mixChapter_8 (by decide) ?_
  refine ev_icmp_gt (tgt := 33) d_O_mixChapter_9 rfl (fun h2 => ?_) (fun h2 => ?_)
  · replace K := K.1 h2
    refine ev_iconst (v := 0) d_O_mixChapter_33 (by decide) ?_
    refine ev_istore (L' := [some (vR 0 0), none, none, some (vI a3), some (vJ a4), none, some (vI (0 : Int32))]) d_O_mixChapter_34 (by decide) rfl ?_
    exact K
  · replace K := K.2 h2
    refine ev_lload d_O_mixChapter_12 rfl ?_
    refine ev_aload_n d_O_mixChapter_14 rfl rfl ?_
    refine ev_iload_n d_O_mixChapter_15 rfl rfl ?_
    refine ev_iload d_O_mixChapter_16 rfl ?_
    obtain ⟨q3, K⟩ := K
    refine ev_callV (as := [vI a3, vI a6]) (st := [vJ a4]) (k := 0) (i := 0) g_O_chapter ml_O_341 rfl rfl (by decide) (by decide) d_O_mixChapter_18 rfl rfl (Nat.le_of_ble_eq_true rfl) rfl (Nat.le_of_ble_eq_true rfl) ?_
    refine f_O_chapter q3 ?_
    show Ev none (d + 5) m_O_mixChapter 21 [some (vR 0 0), none, none, some (vI a3), some (vJ a4), none, some (vI a6)] [vI (fn_O_chapter σ a3 a6), vJ a4] σ post
    refine ev_i2l d_O_mixChapter_21 ?_
    refine ev_callS (as := [vJ a4, vJ (Int32.toInt64 (fn_O_chapter σ a3 a6))]) (st := []) g_O_mix ml_O_312 d_O_mixChapter_22 rfl rfl (Nat.le_of_ble_eq_true rfl) rfl (Nat.le_of_ble_eq_true rfl) ?_
    refine f_O_mix  ?_
    show Ev none (d + 5) m_O_mixChapter 25 [some (vR 0 0), none, none, some (vI a3), some (vJ a4), none, some (vI a6)] [vJ (fn_O_mix σ a4 (Int32.toInt64 (fn_O_chapter σ a3 a6)))] σ post
    refine ev_lstore (L' := [some (vR 0 0), none, none, some (vI a3), some (vJ (fn_O_mix σ a4 (Int32.toInt64 (fn_O_chapter σ a3 a6)))), none, some (vI a6)]) d_O_mixChapter_25 (by decide) rfl ?_
    refine ev_iinc (v := a6 + (1 : Int32)) (L' := [some (vR 0 0), none, none, some (vI a3), some (vJ (fn_O_mix σ a4 (Int32.toInt64 (fn_O_chapter σ a3 a6)))), none, some (vI (a6 + (1 : Int32)))]) d_O_mixChapter_27 rfl (congrArg (a6 + ·) (by decide)) (by decide) rfl ?_
    refine ev_goto (tgt := 6) d_O_mixChapter_30 rfl ?_
    exact K
set_option maxRecDepth 4000 in
theorem sg_O_mixChapter_36 {d : Nat} {σ : ST} {a3 : Int32} {a4 : Int64} {a6 : Int32} {post : Option AV → ST → Prop} (K : (((6 : Int32) ≤ a6) → (Ev none (d + 4) m_E_sit 0 [some (vR 4 0), some (vI (3 : Int32)), some (vI a3), some (vI (σ.1 0 0 9)), none] [] σ (fun r s3 => r = none ∧ ((fs_E_waitOf s3 (1 : Int32)) ∧ ((fs_E_workLeft s3 (1 : Int32)) ∧ ((fs_P_wayOf s3 a3) ∧ (post (some (vJ (fn_O_mix s3 (fn_O_mix s3 (fn_O_mix s3 (fn_O_mix s3 (fn_O_mix s3 (fn_O_mix s3 a4 (Int32.toInt64 (fn_E_chapters s3))) (Int32.toInt64 (fn_E_minute s3))) (Int32.toInt64 (fn_E_next s3))) (Int32.toInt64 (fn_E_waitOf s3 (1 : Int32)))) (Int32.toInt64 (fn_E_workLeft s3 (1 : Int32)))) (Int32.toInt64 (fn_P_wayOf s3 a3))))) s3))))))) ∧ (¬ ((6 : Int32) ≤ a6) → ((fs_C_minutes σ a6 a3) ∧ (Ev none (d + 5) m_O_mixChapter 36 [some (vR 0 0), none, none, some (vI a3), some (vJ (fn_O_mix σ a4 (Int32.toInt64 (fn_C_minutes σ a6 a3)))), none, some (vI (a6 + (1 : Int32)))] [] σ post)))) : Ev none (d + 5) m_O_mixChapter 36 [some (vR 0 0), none, none, some (vI a3), some (vJ a4), none, some (vI a6)] [] σ post := by
  refine ev_iload d_O_mixChapter_36 rfl ?_
  refine ev_bipush (v := 6) d_O_mixChapter_38 (by decide) ?_
  refine ev_icmp_ge (tgt := 67) d_O_mixChapter_40 rfl (fun h2 => ?_) (fun h2 => ?_)
  · replace K := K.1 h2
    refine ev_aload_n d_O_mixChapter_67 rfl rfl ?_
    refine ev_getR gf_O_30 rfl (by decide) d_O_mixChapter_68 ?_
    refine ev_iconst (v := 3) d_O_mixChapter_71 (by decide) ?_
    refine ev_iload_n d_O_mixChapter_72 rfl rfl ?_
    refine ev_aload_n d_O_mixChapter_73 rfl rfl ?_
    refine ev_getI gf_O_76 rfl (by decide) d_O_mixChapter_74 ?_
    refine ev_callV (as := [vI (3 : Int32), vI a3, vI (σ.1 0 0 9)]) (st := []) (k := 4) (i := 0) g_E_sit ml_O_175 rfl rfl (by decide) (by decide) d_O_mixChapter_77 rfl rfl (Nat.le_of_ble_eq_true rfl) rfl (Nat.le_of_ble_eq_true rfl) ?_
    refine Ev.mono K ?_
    rintro _ s3 ⟨rfl, K⟩
    show Ev none (d + 5) m_O_mixChapter 80 [some (vR 0 0), none, none, some (vI a3), some (vJ a4), none, some (vI a6)] [] s3 post
    refine ev_lload d_O_mixChapter_80 rfl ?_
    refine ev_aload_n d_O_mixChapter_82 rfl rfl ?_
    refine ev_getR gf_O_30 rfl (by decide) d_O_mixChapter_83 ?_
    refine ev_callV (as := []) (st := [vJ a4]) (k := 4) (i := 0) g_E_chapters ml_O_179 rfl rfl (by decide) (by decide) d_O_mixChapter_86 rfl rfl (Nat.le_of_ble_eq_true rfl) rfl (Nat.le_of_ble_eq_true rfl) ?_
    refine f_E_chapters  ?_
    show Ev none (d + 5) m_O_mixChapter 89 [some (vR 0 0), none, none, some (vI a3), some (vJ a4), none, some (vI a6)] [vI (fn_E_chapters s3), vJ a4] s3 post
    refine ev_i2l d_O_mixChapter_89 ?_
    refine ev_callS (as := [vJ a4, vJ (Int32.toInt64 (fn_E_chapters s3))]) (st := []) g_O_mix ml_O_312 d_O_mixChapter_90 rfl rfl (Nat.le_of_ble_eq_true rfl) rfl (Nat.le_of_ble_eq_true rfl) ?_
    refine f_O_mix  ?_
    show Ev none (d + 5) m_O_mixChapter 93 [some (vR 0 0), none, none, some (vI a3), some (vJ a4), none, some (vI a6)] [vJ (fn_O_mix s3 a4 (Int32.toInt64 (fn_E_chapters s3)))] s3 post
    refine ev_lstore (L' := [some (vR 0 0), none, none, some (vI a3), some (vJ (fn_O_mix s3 a4 (Int32.toInt64 (fn_E_chapters s3)))), none, some (vI a6)]) d_O_mixChapter_93 (by decide) rfl ?_
    refine ev_lload d_O_mixChapter_95 rfl ?_
    refine ev_aload_n d_O_mixChapter_97 rfl rfl ?_
    refine ev_getR gf_O_30 rfl (by decide) d_O_mixChapter_98 ?_
    refine ev_callV (as := []) (st := [vJ (fn_O_mix s3 a4 (Int32.toInt64 (fn_E_chapters s3)))]) (k := 4) (i := 0) g_E_minute ml_O_182 rfl rfl (by decide) (by decide) d_O_mixChapter_101 rfl rfl (Nat.le_of_ble_eq_true rfl) rfl (Nat.le_of_ble_eq_true rfl) ?_
    refine f_E_minute  ?_
    show Ev none (d + 5) m_O_mixChapter 104 [some (vR 0 0), none, none, some (vI a3), some (vJ (fn_O_mix s3 a4 (Int32.toInt64 (fn_E_chapters s3)))), none, some (vI a6)] [vI (fn_E_minute s3), vJ (fn_O_mix s3 a4 (Int32.toInt64 (fn_E_chapters s3)))] s3 post
    refine ev_i2l d_O_mixChapter_104 ?_
    refine ev_callS (as := [vJ (fn_O_mix s3 a4 (Int32.toInt64 (fn_E_chapters s3))), vJ (Int32.toInt64 (fn_E_minute s3))]) (st := []) g_O_mix ml_O_312 d_O_mixChapter_105 rfl rfl (Nat.le_of_ble_eq_true rfl) rfl (Nat.le_of_ble_eq_true rfl) ?_
    refine f_O_mix  ?_
    show Ev none (d + 5) m_O_mixChapter 108 [some (vR 0 0), none, none, some (vI a3), some (vJ (fn_O_mix s3 a4 (Int32.toInt64 (fn_E_chapters s3)))), none, some (vI a6)] [vJ (fn_O_mix s3 (fn_O_mix s3 a4 (Int32.toInt64 (fn_E_chapters s3))) (Int32.toInt64 (fn_E_minute s3)))] s3 post
    refine ev_lstore (L' := [some (vR 0 0), none, none, some (vI a3), some (vJ (fn_O_mix s3 (fn_O_mix s3 a4 (Int32.toInt64 (fn_E_chapters s3))) (Int32.toInt64 (fn_E_minute s3)))), none, some (vI a6)]) d_O_mixChapter_108 (by decide) rfl ?_
    refine ev_lload d_O_mixChapter_110 rfl ?_
    refine ev_aload_n d_O_mixChapter_112 rfl rfl ?_
    refine ev_getR gf_O_30 rfl (by decide) d_O_mixChapter_113 ?_
    refine ev_callV (as := []) (st := [vJ (fn_O_mix s3 (fn_O_mix s3 a4 (Int32.toInt64 (fn_E_chapters s3))) (Int32.toInt64 (fn_E_minute s3)))]) (k := 4) (i := 0) g_E_next ml_O_185 rfl rfl (by decide) (by decide) d_O_mixChapter_116 rfl rfl (Nat.le_of_ble_eq_true rfl) rfl (Nat.le_of_ble_eq_true rfl) ?_
    refine f_E_next  ?_
    show Ev none (d + 5) m_O_mixChapter 119 [some (vR 0 0), none, none, some (vI a3), some (vJ (fn_O_mix s3 (fn_O_mix s3 a4 (Int32.toInt64 (fn_E_chapters s3))) (Int32.toInt64 (fn_E_minute s3)))), none, some (vI a6)] [vI (fn_E_next s3), vJ (fn_O_mix s3 (fn_O_mix s3 a4 (Int32.toInt64 (fn_E_chapters s3))) (Int32.toInt64 (fn_E_minute s3)))] s3 post
    refine ev_i2l d_O_mixChapter_119 ?_
    refine ev_callS (as := [vJ (fn_O_mix s3 (fn_O_mix s3 a4 (Int32.toInt64 (fn_E_chapters s3))) (Int32.toInt64 (fn_E_minute s3))), vJ (Int32.toInt64 (fn_E_next s3))]) (st := []) g_O_mix ml_O_312 d_O_mixChapter_120 rfl rfl (Nat.le_of_ble_eq_true rfl) rfl (Nat.le_of_ble_eq_true rfl) ?_
    refine f_O_mix  ?_
    show Ev none (d + 5) m_O_mixChapter 123 [some (vR 0 0), none, none, some (vI a3), some (vJ (fn_O_mix s3 (fn_O_mix s3 a4 (Int32.toInt64 (fn_E_chapters s3))) (Int32.toInt64 (fn_E_minute s3)))), none, some (vI a6)] [vJ (fn_O_mix s3 (fn_O_mix s3 (fn_O_mix s3 a4 (Int32.toInt64 (fn_E_chapters s3))) (Int32.toInt64 (fn_E_minute s3))) (Int32.toInt64 (fn_E_next s3)))] s3 post
    refine ev_lstore (L' := [some (vR 0 0), none, none, some (vI a3), some (vJ (fn_O_mix s3 (fn_O_mix s3 (fn_O_mix s3 a4 (Int32.toInt64 (fn_E_chapters s3))) (Int32.toInt64 (fn_E_minute s3))) (Int32.toInt64 (fn_E_next s3)))), none, some (vI a6)]) d_O_mixChapter_123 (by decide) rfl ?_
    refine ev_lload d_O_mixChapter_125 rfl ?_
    refine ev_aload_n d_O_mixChapter_127 rfl rfl ?_
    refine ev_getR gf_O_30 rfl (by decide) d_O_mixChapter_128 ?_
    refine ev_iconst (v := 1) d_O_mixChapter_131 (by decide) ?_
    obtain ⟨q4, K⟩ := K
    refine ev_callV (as := [vI (1 : Int32)]) (st := [vJ (fn_O_mix s3 (fn_O_mix s3 (fn_O_mix s3 a4 (Int32.toInt64 (fn_E_chapters s3))) (Int32.toInt64 (fn_E_minute s3))) (Int32.toInt64 (fn_E_next s3)))]) (k := 4) (i := 0) g_E_waitOf ml_O_192 rfl rfl (by decide) (by decide) d_O_mixChapter_132 rfl rfl (Nat.le_of_ble_eq_true rfl) rfl (Nat.le_of_ble_eq_true rfl) ?_
    refine f_E_waitOf q4 ?_
    show Ev none (d + 5) m_O_mixChapter 135 [some (vR 0 0), none, none, some (vI a3), some (vJ (fn_O_mix s3 (fn_O_mix s3 (fn_O_mix s3 a4 (Int32.toInt64 (fn_E_chapters s3))) (Int32.toInt64 (fn_E_minute s3))) (Int32.toInt64 (fn_E_next s3)))), none, some (vI a6)] [vI (fn_E_waitOf s3 (1 : Int32)), vJ (fn_O_mix s3 (fn_O_mix s3 (fn_O_mix s3 a4 (Int32.toInt64 (fn_E_chapters s3))) (Int32.toInt64 (fn_E_minute s3))) (Int32.toInt64 (fn_E_next s3)))] s3 post
    refine ev_i2l d_O_mixChapter_135 ?_
    refine ev_callS (as := [vJ (fn_O_mix s3 (fn_O_mix s3 (fn_O_mix s3 a4 (Int32.toInt64 (fn_E_chapters s3))) (Int32.toInt64 (fn_E_minute s3))) (Int32.toInt64 (fn_E_next s3))), vJ (Int32.toInt64 (fn_E_waitOf s3 (1 : Int32)))]) (st := []) g_O_mix ml_O_312 d_O_mixChapter_136 rfl rfl (Nat.le_of_ble_eq_true rfl) rfl (Nat.le_of_ble_eq_true rfl) ?_
    refine f_O_mix  ?_
    show Ev none (d + 5) m_O_mixChapter 139 [some (vR 0 0), none, none, some (vI a3), some (vJ (fn_O_mix s3 (fn_O_mix s3 (fn_O_mix s3 a4 (Int32.toInt64 (fn_E_chapters s3))) (Int32.toInt64 (fn_E_minute s3))) (Int32.toInt64 (fn_E_next s3)))), none, some (vI a6)] [vJ (fn_O_mix s3 (fn_O_mix s3 (fn_O_mix s3 (fn_O_mix s3 a4 (Int32.toInt64 (fn_E_chapters s3))) (Int32.toInt64 (fn_E_minute s3))) (Int32.toInt64 (fn_E_next s3))) (Int32.toInt64 (fn_E_waitOf s3 (1 : Int32))))] s3 post
    refine ev_lstore (L' := [some (vR 0 0), none, none, some (vI a3), some (vJ (fn_O_mix s3 (fn_O_mix s3 (fn_O_mix s3 (fn_O_mix s3 a4 (Int32.toInt64 (fn_E_chapters s3))) (Int32.toInt64 (fn_E_minute s3))) (Int32.toInt64 (fn_E_next s3))) (Int32.toInt64 (fn_E_waitOf s3 (1 : Int32))))), none, some (vI a6)]) d_O_mixChapter_139 (by decide) rfl ?_
    refine ev_lload d_O_mixChapter_141 rfl ?_
    refine ev_aload_n d_O_mixChapter_143 rfl rfl ?_
    refine ev_getR gf_O_30 rfl (by decide) d_O_mixChapter_144 ?_
    refine ev_iconst (v := 1) d_O_mixChapter_147 (by decide) ?_
    obtain ⟨q5, K⟩ := K
    refine ev_callV (as := [vI (1 : Int32)]) (st := [vJ (fn_O_mix s3 (fn_O_mix s3 (fn_O_mix s3 (fn_O_mix s3 a4 (Int32.toInt64 (fn_E_chapters s3))) (Int32.toInt64 (fn_E_minute s3))) (Int32.toInt64 (fn_E_next s3))) (Int32.toInt64 (fn_E_waitOf s3 (1 : Int32))))]) (k := 4) (i := 0) g_E_workLeft ml_O_195 rfl rfl (by decide) (by decide) d_O_mixChapter_148 rfl rfl (Nat.le_of_ble_eq_true rfl) rfl (Nat.le_of_ble_eq_true rfl) ?_
    refine f_E_workLeft q5 ?_
    show Ev none (d + 5) m_O_mixChapter 151 [some (vR 0 0), none, none, some (vI a3), some (vJ (fn_O_mix s3 (fn_O_mix s3 (fn_O_mix s3 (fn_O_mix s3 a4 (Int32.toInt64 (fn_E_chapters s3))) (Int32.toInt64 (fn_E_minute s3))) (Int32.toInt64 (fn_E_next s3))) (Int32.toInt64 (fn_E_waitOf s3 (1 : Int32))))), none, some (vI a6)] [vI (fn_E_workLeft s3 (1 : Int32)), vJ (fn_O_mix s3 (fn_O_mix s3 (fn_O_mix s3 (fn_O_mix s3 a4 (Int32.toInt64 (fn_E_chapters s3))) (Int32.toInt64 (fn_E_minute s3))) (Int32.toInt64 (fn_E_next s3))) (Int32.toInt64 (fn_E_waitOf s3 (1 : Int32))))] s3 post
    refine ev_i2l d_O_mixChapter_151 ?_
    refine ev_callS (as := [vJ (fn_O_mix s3 (fn_O_mix s3 (fn_O_mix s3 (fn_O_mix s3 a4 (Int32.toInt64 (fn_E_chapters s3))) (Int32.toInt64 (fn_E_minute s3))) (Int32.toInt64 (fn_E_next s3))) (Int32.toInt64 (fn_E_waitOf s3 (1 : Int32)))), vJ (Int32.toInt64 (fn_E_workLeft s3 (1 : Int32)))]) (st := []) g_O_mix ml_O_312 d_O_mixChapter_152 rfl rfl (Nat.le_of_ble_eq_true rfl) rfl (Nat.le_of_ble_eq_true rfl) ?_
    refine f_O_mix  ?_
    show Ev none (d + 5) m_O_mixChapter 155 [some (vR 0 0), none, none, some (vI a3), some (vJ (fn_O_mix s3 (fn_O_mix s3 (fn_O_mix s3 (fn_O_mix s3 a4 (Int32.toInt64 (fn_E_chapters s3))) (Int32.toInt64 (fn_E_minute s3))) (Int32.toInt64 (fn_E_next s3))) (Int32.toInt64 (fn_E_waitOf s3 (1 : Int32))))), none, some (vI a6)] [vJ (fn_O_mix s3 (fn_O_mix s3 (fn_O_mix s3 (fn_O_mix s3 (fn_O_mix s3 a4 (Int32.toInt64 (fn_E_chapters s3))) (Int32.toInt64 (fn_E_minute s3))) (Int32.toInt64 (fn_E_next s3))) (Int32.toInt64 (fn_E_waitOf s3 (1 : Int32)))) (Int32.toInt64 (fn_E_workLeft s3 (1 : Int32))))] s3 post
    refine ev_lstore (L' := [some (vR 0 0), none, none, some (vI a3), some (vJ (fn_O_mix s3 (fn_O_mix s3 (fn_O_mix s3 (fn_O_mix s3 (fn_O_mix s3 a4 (Int32.toInt64 (fn_E_chapters s3))) (Int32.toInt64 (fn_E_minute s3))) (Int32.toInt64 (fn_E_next s3))) (Int32.toInt64 (fn_E_waitOf s3 (1 : Int32)))) (Int32.toInt64 (fn_E_workLeft s3 (1 : Int32))))), none, some (vI a6)]) d_O_mixChapter_155 (by decide) rfl ?_
    refine ev_lload d_O_mixChapter_157 rfl ?_
    refine ev_aload_n d_O_mixChapter_159 rfl rfl ?_
    refine ev_getR gf_O_37 rfl (by decide) d_O_mixChapter_160 ?_
    refine ev_iload_n d_O_mixChapter_163 rfl rfl ?_
    obtain ⟨q6, K⟩ := K
    refine ev_callV (as := [vI a3]) (st := [vJ (fn_O_mix s3 (fn_O_mix s3 (fn_O_mix s3 (fn_O_mix s3 (fn_O_mix s3 a4 (Int32.toInt64 (fn_E_chapters s3))) (Int32.toInt64 (fn_E_minute s3))) (Int32.toInt64 (fn_E_next s3))) (Int32.toInt64 (fn_E_waitOf s3 (1 : Int32)))) (Int32.toInt64 (fn_E_workLeft s3 (1 : Int32))))]) (k := 5) (i := 0) g_P_wayOf ml_O_213 rfl rfl (by decide) (by decide) d_O_mixChapter_164 rfl rfl (Nat.le_of_ble_eq_true rfl) rfl (Nat.le_of_ble_eq_true rfl) ?_
    refine f_P_wayOf q6 ?_
    show Ev none (d + 5) m_O_mixChapter 167 [some (vR 0 0), none, none, some (vI a3), some (vJ (fn_O_mix s3 (fn_O_mix s3 (fn_O_mix s3 (fn_O_mix s3 (fn_O_mix s3 a4 (Int32.toInt64 (fn_E_chapters s3))) (Int32.toInt64 (fn_E_minute s3))) (Int32.toInt64 (fn_E_next s3))) (Int32.toInt64 (fn_E_waitOf s3 (1 : Int32)))) (Int32.toInt64 (fn_E_workLeft s3 (1 : Int32))))), none, some (vI a6)] [vI (fn_P_wayOf s3 a3), vJ (fn_O_mix s3 (fn_O_mix s3 (fn_O_mix s3 (fn_O_mix s3 (fn_O_mix s3 a4 (Int32.toInt64 (fn_E_chapters s3))) (Int32.toInt64 (fn_E_minute s3))) (Int32.toInt64 (fn_E_next s3))) (Int32.toInt64 (fn_E_waitOf s3 (1 : Int32)))) (Int32.toInt64 (fn_E_workLeft s3 (1 : Int32))))] s3 post
    refine ev_i2l d_O_mixChapter_167 ?_
    refine ev_callS (as := [vJ (fn_O_mix s3 (fn_O_mix s3 (fn_O_mix s3 (fn_O_mix s3 (fn_O_mix s3 a4 (Int32.toInt64 (fn_E_chapters s3))) (Int32.toInt64 (fn_E_minute s3))) (Int32.toInt64 (fn_E_next s3))) (Int32.toInt64 (fn_E_waitOf s3 (1 : Int32)))) (Int32.toInt64 (fn_E_workLeft s3 (1 : Int32)))), vJ (Int32.toInt64 (fn_P_wayOf s3 a3))]) (st := []) g_O_mix ml_O_312 d_O_mixChapter_168 rfl rfl (Nat.le_of_ble_eq_true rfl) rfl (Nat.le_of_ble_eq_true rfl) ?_
    refine f_O_mix  ?_
    show Ev none (d + 5) m_O_mixChapter 171 [some (vR 0 0), none, none, some (vI a3), some (vJ (fn_O_mix s3 (fn_O_mix s3 (fn_O_mix s3 (fn_O_mix s3 (fn_O_mix s3 a4 (Int32.toInt64 (fn_E_chapters s3))) (Int32.toInt64 (fn_E_minute s3))) (Int32.toInt64 (fn_E_next s3))) (Int32.toInt64 (fn_E_waitOf s3 (1 : Int32)))) (Int32.toInt64 (fn_E_workLeft s3 (1 : Int32))))), none, some (vI a6)] [vJ (fn_O_mix s3 (fn_O_mix s3 (fn_O_mix s3 (fn_O_mix s3 (fn_O_mix s3 (fn_O_mix s3 a4 (Int32.toInt64 (fn_E_chapters s3))) (Int32.toInt64 (fn_E_minute s3))) (Int32.toInt64 (fn_E_next s3))) (Int32.toInt64 (fn_E_waitOf s3 (1 : Int32)))) (Int32.toInt64 (fn_E_workLeft s3 (1 : Int32)))) (Int32.toInt64 (fn_P_wayOf s3 a3)))] s3 post
    exact ev_ret (r := some (vJ (fn_O_mix s3 (fn_O_mix s3 (fn_O_mix s3 (fn_O_mix s3 (fn_O_mix s3 (fn_O_mix s3 a4 (Int32.toInt64 (fn_E_chapters s3))) (Int32.toInt64 (fn_E_minute s3))) (Int32.toInt64 (fn_E_next s3))) (Int32.toInt64 (fn_E_waitOf s3 (1 : Int32)))) (Int32.toInt64 (fn_E_workLeft s3 (1 : Int32)))) (Int32.toInt64 (fn_P_wayOf s3 a3))))) d_O_mixChapter_171 rfl rfl K
  · replace K := K.2 h2
    refine ev_lload d_O_mixChapter_43 rfl ?_
    refine ev_aload_n d_O_mixChapter_45 rfl rfl ?_
    refine ev_getR gf_O_21 rfl (by decide) d_O_mixChapter_46 ?_
    refine ev_iload d_O_mixChapter_49 rfl ?_
    refine ev_iload_n d_O_mixChapter_51 rfl rfl ?_
    obtain ⟨q7, K⟩ := K
    refine ev_callV (as := [vI a6, vI a3]) (st := [vJ a4]) (k := 2) (i := 0) g_C_minutes ml_O_169 rfl rfl (by decide) (by decide) d_O_mixChapter_52 rfl rfl (Nat.le_of_ble_eq_true rfl) rfl (Nat.le_of_ble_eq_true rfl) ?_
    refine f_C_minutes q7 ?_
    show Ev none (d + 5) m_O_mixChapter 55 [some (vR 0 0), none, none, some (vI a3), some (vJ a4), none, some (vI a6)] [vI (fn_C_minutes σ a6 a3), vJ a4] σ post
    refine ev_i2l d_O_mixChapter_55 ?_
    refine ev_callS (as := [vJ a4, vJ (Int32.toInt64 (fn_C_minutes σ a6 a3))]) (st := []) g_O_mix ml_O_312 d_O_mixChapter_56 rfl rfl (Nat.le_of_ble_eq_true rfl) rfl (Nat.le_of_ble_eq_true rfl) ?_
    refine f_O_mix  ?_
    show Ev none (d + 5) m_O_mixChapter 59 [some (vR 0 0), none, none, some (vI a3), some (vJ a4), none, some (vI a6)] [vJ (fn_O_mix σ a4 (Int32.toInt64 (fn_C_minutes σ a6 a3)))] σ post
    refine ev_lstore (L' := [some (vR 0 0), none, none, some (vI a3), some (vJ (fn_O_mix σ a4 (Int32.toInt64 (fn_C_minutes σ a6 a3)))), none, some (vI a6)]) d_O_mixChapter_59 (by decide) rfl ?_
    refine ev_iinc (v := a6 + (1 : Int32)) (L' := [some (vR 0 0), none, none, some (vI a3), some (vJ (fn_O_mix σ a4 (Int32.toInt64 (fn_C_minutes σ a6 a3)))), none, some (vI (a6 + (1 : Int32)))]) d_O_mixChapter_61 rfl (congrArg (a6 + ·) (by decide)) (by decide) rfl ?_
    refine ev_goto (tgt := 36) d_O_mixChapter_64 rfl ?_
    exact K
set_option maxRecDepth 4000 in
theorem sg_O_mixMoods_0 {d : Nat} {σ : ST} {a1 : Int64} {post : Option AV → ST → Prop} (K : Ev none (d + 4) m_D_chanceBy 0 [some (vR 9 0), some (vI (7 : Int32)), some (vI (60 : Int32)), none, none, none, none, none, none] [] σ (fun r s1 => r = none ∧ (Ev none (d + 4) m_D_meanMinutes 0 [some (vR 9 0), some (vI (7 : Int32)), none, none, none, none] [] s1 (fun r s2 => r = none ∧ (post (some (vJ (fn_O_mix s2 (fn_O_mix s2 (fn_O_mix s1 (fn_O_mix s1 a1 (fn_D_above s1)) (fn_D_below s1)) (fn_D_above s2)) (fn_D_below s2)))) s2))))) : Ev none (d + 5) m_O_mixMoods 0 [some (vR 0 0), some (vJ a1), none, none, none] [] σ post := by
  refine ev_aload_n d_O_mixMoods_0 rfl rfl ?_
  refine ev_getR gf_O_65 rfl (by decide) d_O_mixMoods_1 ?_
  refine ev_bipush (v := 7) d_O_mixMoods_4 (by decide) ?_
  refine ev_bipush (v := 60) d_O_mixMoods_6 (by decide) ?_
  refine ev_callV (as := [vI (7 : Int32), vI (60 : Int32)]) (st := []) (k := 9) (i := 0) g_D_chanceBy ml_O_257 rfl rfl (by decide) (by decide) d_O_mixMoods_8 rfl rfl (Nat.le_of_ble_eq_true rfl) rfl (Nat.le_of_ble_eq_true rfl) ?_
  refine Ev.mono K ?_
  rintro _ s1 ⟨rfl, K⟩
  show Ev none (d + 5) m_O_mixMoods 11 [some (vR 0 0), some (vJ a1), none, none, none] [] s1 post
  refine ev_lload_n d_O_mixMoods_11 rfl rfl ?_
  refine ev_aload_n d_O_mixMoods_12 rfl rfl ?_
  refine ev_getR gf_O_65 rfl (by decide) d_O_mixMoods_13 ?_
  refine ev_callV (as := []) (st := [vJ a1]) (k := 9) (i := 0) g_D_above ml_O_260 rfl rfl (by decide) (by decide) d_O_mixMoods_16 rfl rfl (Nat.le_of_ble_eq_true rfl) rfl (Nat.le_of_ble_eq_true rfl) ?_
  refine f_D_above  ?_
  show Ev none (d + 5) m_O_mixMoods 19 [some (vR 0 0), some (vJ a1), none, none, none] [vJ (fn_D_above s1), vJ a1] s1 post
  refine ev_callS (as := [vJ a1, vJ (fn_D_above s1)]) (st := []) g_O_mix ml_O_312 d_O_mixMoods_19 rfl rfl (Nat.le_of_ble_eq_true rfl) rfl (Nat.le_of_ble_eq_true rfl) ?_
  refine f_O_mix  ?_
  show Ev none (d + 5) m_O_mixMoods 22 [some (vR 0 0), some (vJ a1), none, none, none] [vJ (fn_O_mix s1 a1 (fn_D_above s1))] s1 post
  refine ev_lstore_n (L' := [some (vR 0 0), some (vJ a1), none, some (vJ (fn_O_mix s1 a1 (fn_D_above s1))), none]) d_O_mixMoods_22 rfl (by decide) rfl ?_
  refine ev_lload_n d_O_mixMoods_23 rfl rfl ?_
  refine ev_aload_n d_O_mixMoods_24 rfl rfl ?_
  refine ev_getR gf_O_65 rfl (by decide) d_O_mixMoods_25 ?_
  refine ev_callV (as := []) (st := [vJ (fn_O_mix s1 a1 (fn_D_above s1))]) (k := 9) (i := 0) g_D_below ml_O_264 rfl rfl (by decide) (by decide) d_O_mixMoods_28 rfl rfl (Nat.le_of_ble_eq_true rfl) rfl (Nat.le_of_ble_eq_true rfl) ?_
  refine f_D_below  ?_
  show Ev none (d + 5) m_O_mixMoods 31 [some (vR 0 0), some (vJ a1), none, some (vJ (fn_O_mix s1 a1 (fn_D_above s1))), none] [vJ (fn_D_below s1), vJ (fn_O_mix s1 a1 (fn_D_above s1))] s1 post
  refine ev_callS (as := [vJ (fn_O_mix s1 a1 (fn_D_above s1)), vJ (fn_D_below s1)]) (st := []) g_O_mix ml_O_312 d_O_mixMoods_31 rfl rfl (Nat.le_of_ble_eq_true rfl) rfl (Nat.le_of_ble_eq_true rfl) ?_
  refine f_O_mix  ?_
  show Ev none (d + 5) m_O_mixMoods 34 [some (vR 0 0), some (vJ a1), none, some (vJ (fn_O_mix s1 a1 (fn_D_above s1))), none] [vJ (fn_O_mix s1 (fn_O_mix s1 a1 (fn_D_above s1)) (fn_D_below s1))] s1 post
  refine ev_lstore_n (L' := [some (vR 0 0), some (vJ a1), none, some (vJ (fn_O_mix s1 (fn_O_mix s1 a1 (fn_D_above s1)) (fn_D_below s1))), none]) d_O_mixMoods_34 rfl (by decide) rfl ?_
  refine ev_aload_n d_O_mixMoods_35 rfl rfl ?_
  refine ev_getR gf_O_65 rfl (by decide) d_O_mixMoods_36 ?_
  refine ev_bipush (v := 7) d_O_mixMoods_39 (by decide) ?_
  refine ev_callV (as := [vI (7 : Int32)]) (st := []) (k := 9) (i := 0) g_D_meanMinutes ml_O_267 rfl rfl (by decide) (by decide) d_O_mixMoods_41 rfl rfl (Nat.le_of_ble_eq_true rfl) rfl (Nat.le_of_ble_eq_true rfl) ?_
  refine Ev.mono K ?_
  rintro _ s2 ⟨rfl, K⟩
  show Ev none (d + 5) m_O_mixMoods 44 [some (vR 0 0), some (vJ a1), none, some (vJ (fn_O_mix s1 (fn_O_mix s1 a1 (fn_D_above s1)) (fn_D_below s1))), none] [] s2 post
  refine ev_lload_n d_O_mixMoods_44 rfl rfl ?_
  refine ev_aload_n d_O_mixMoods_45 rfl rfl ?_
  refine ev_getR gf_O_65 rfl (by decide) d_O_mixMoods_46 ?_
  refine ev_callV (as := []) (st := [vJ (fn_O_mix s1 (fn_O_mix s1 a1 (fn_D_above s1)) (fn_D_below s1))]) (k := 9) (i := 0) g_D_above ml_O_260 rfl rfl (by decide) (by decide) d_O_mixMoods_49 rfl rfl (Nat.le_of_ble_eq_true rfl) rfl (Nat.le_of_ble_eq_true rfl) ?_
  refine f_D_above  ?_
  show Ev none (d + 5) m_O_mixMoods 52 [some (vR 0 0), some (vJ a1), none, some (vJ (fn_O_mix s1 (fn_O_mix s1 a1 (fn_D_above s1)) (fn_D_below s1))), none] [vJ (fn_D_above s2), vJ (fn_O_mix s1 (fn_O_mix s1 a1 (fn_D_above s1)) (fn_D_below s1))] s2 post
  refine ev_callS (as := [vJ (fn_O_mix s1 (fn_O_mix s1 a1 (fn_D_above s1)) (fn_D_below s1)), vJ (fn_D_above s2)]) (st := []) g_O_mix ml_O_312 d_O_mixMoods_52 rfl rfl (Nat.le_of_ble_eq_true rfl) rfl (Nat.le_of_ble_eq_true rfl) ?_
  refine f_O_mix  ?_
  show Ev none (d + 5) m_O_mixMoods 55 [some (vR 0 0), some (vJ a1), none, some (vJ (fn_O_mix s1 (fn_O_mix s1 a1 (fn_D_above s1)) (fn_D_below s1))), none] [vJ (fn_O_mix s2 (fn_O_mix s1 (fn_O_mix s1 a1 (fn_D_above s1)) (fn_D_below s1)) (fn_D_above s2))] s2 post
  refine ev_lstore_n (L' := [some (vR 0 0), some (vJ a1), none, some (vJ (fn_O_mix s2 (fn_O_mix s1 (fn_O_mix s1 a1 (fn_D_above s1)) (fn_D_below s1)) (fn_D_above s2))), none]) d_O_mixMoods_55 rfl (by decide) rfl ?_
  refine ev_lload_n d_O_mixMoods_56 rfl rfl ?_
  refine ev_aload_n d_O_mixMoods_57 rfl rfl ?_
  refine ev_getR gf_O_65 rfl (by decide) d_O_mixMoods_58 ?_
  refine ev_callV (as := []) (st := [vJ (fn_O_mix s2 (fn_O_mix s1 (fn_O_mix s1 a1 (fn_D_above s1)) (fn_D_below s1)) (fn_D_above s2))]) (k := 9) (i := 0) g_D_below ml_O_264 rfl rfl (by decide) (by decide) d_O_mixMoods_61 rfl rfl (Nat.le_of_ble_eq_true rfl) rfl (Nat.le_of_ble_eq_true rfl) ?_
  refine f_D_below  ?_
  show Ev none (d + 5) m_O_mixMoods 64 [some (vR 0 0), some (vJ a1), none, some (vJ (fn_O_mix s2 (fn_O_mix s1 (fn_O_mix s1 a1 (fn_D_above s1)) (fn_D_below s1)) (fn_D_above s2))), none] [vJ (fn_D_below s2), vJ (fn_O_mix s2 (fn_O_mix s1 (fn_O_mix s1 a1 (fn_D_above s1)) (fn_D_below s1)) (fn_D_above s2))] s2 post
  refine ev_callS (as := [vJ (fn_O_mix s2 (fn_O_mix s1 (fn_O_mix s1 a1 (fn_D_above s1)) (fn_D_below s1)) (fn_D_above s2)), vJ (fn_D_below s2)]) (st := []) g_O_mix ml_O_312 d_O_mixMoods_64 rfl rfl (Nat.le_of_ble_eq_true rfl) rfl (Nat.le_of_ble_eq_true rfl) ?_
  refine f_O_mix  ?_
  show Ev none (d + 5) m_O_mixMoods 67 [some (vR 0 0), some (vJ a1), none, some (vJ (fn_O_mix s2 (fn_O_mix s1 (fn_O_mix s1 a1 (fn_D_above s1)) (fn_D_below s1)) (fn_D_above s2))), none] [vJ (fn_O_mix s2 (fn_O_mix s2 (fn_O_mix s1 (fn_O_mix s1 a1 (fn_D_above s1)) (fn_D_below s1)) (fn_D_above s2)) (fn_D_below s2))] s2 post
  exact ev_ret (r := some (vJ (fn_O_mix s2 (fn_O_mix s2 (fn_O_mix s1 (fn_O_mix s1 a1 (fn_D_above s1)) (fn_D_below s1)) (fn_D_above s2)) (fn_D_below s2)))) d_O_mixMoods_67 rfl rfl K
set_option maxRecDepth 4000 in
theorem sg_O_mixSeeming_0 {d : Nat} {σ : ST} {a1 : Int64} {post : Option AV → ST → Prop} (K : Ev none (d + 4) m_S_findRests 0 [some (vR 6 0), some (vI (0 : Int32)), some (vI (1 : Int32)), none] [] σ (fun r s1 => r = none ∧ ((fs_S_restAt s1 (0 : Int32)) ∧ (Ev none (d + 4) m_S_gainOf 0 [some (vR 6 0), some (vI (0 : Int32)), some (vI (1 : Int32)), some (vI (2 : Int32)), some (vI (1 : Int32)), none, none, none, none] [] s1 (fun r s3 => ∃ z4 : Int32, r = some (vI z4) ∧ (Ev none (d + 4) m_S_gainOf 0 [some (vR 6 0), some (vI (1 : Int32)), some (vI (0 : Int32)), some (vI (1 : Int32)), some (vI (2 : Int32)), none, none, none, none] [] s3 (fun r s5 => ∃ z6 : Int32, r = some (vI z6) ∧ (post (some (vJ (fn_O_mix s5 (fn_O_mix s3 (fn_O_mix s1 (fn_O_mix s1 a1 (Int32.toInt64 (fn_S_restCount s1))) (Int32.toInt64 (fn_S_restAt s1 (0 : Int32)))) (Int32.toInt64 z4)) (Int32.toInt64 z6)))) s5)))))))) : Ev none (d + 5) m_O_mixSeeming 0 [some (vR 0 0), some (vJ a1), none, none, none] [] σ post := by
  refine ev_aload_n d_O_mixSeeming_0 rfl rfl ?_
  refine ev_getR gf_O_44 rfl (by decide) d_O_mixSeeming_1 ?_
  refine ev_iconst (v := 0) d_O_mixSeeming_4 (by decide) ?_
  refine ev_iconst (v := 1) d_O_mixSeeming_5 (by decide) ?_
  refine ev_callV (as := [vI (0 : Int32), vI (1 : Int32)]) (st := []) (k := 6) (i := 0) g_S_findRests ml_O_220 rfl rfl (by decide) (by decide) d_O_mixSeeming_6 rfl rfl (Nat.le_of_ble_eq_true rfl) rfl (Nat.le_of_ble_eq_true rfl) ?_
  refine Ev.mono K ?_
  rintro _ s1 ⟨rfl, K⟩
  show Ev none (d + 5) m_O_mixSeeming 9 [some (vR 0 0), some (vJ a1), none, none, none] [] s1 post
  refine ev_lload_n d_O_mixSeeming_9 rfl rfl ?_
  refine ev_aload_n d_O_mixSeeming_10 rfl rfl ?_
  refine ev_getR gf_O_44 rfl (by decide) d_O_mixSeeming_11 ?_
  refine ev_callV (as := []) (st := [vJ a1]) (k := 6) (i := 0) g_S_restCount ml_O_224 rfl rfl (by decide) (by decide) d_O_mixSeeming_14 rfl rfl (Nat.le_of_ble_eq_true rfl) rfl (Nat.le_of_ble_eq_true rfl) ?_
  refine f_S_restCount  ?_
  show Ev none (d + 5) m_O_mixSeeming 17 [some (vR 0 0), some (vJ a1), none, none, none] [vI (fn_S_restCount s1), vJ a1] s1 post
  refine ev_i2l d_O_mixSeeming_17 ?_
  refine ev_callS (as := [vJ a1, vJ (Int32.toInt64 (fn_S_restCount s1))]) (st := []) g_O_mix ml_O_312 d_O_mixSeeming_18 rfl rfl (Nat.le_of_ble_eq_true rfl) rfl (Nat.le_of_ble_eq_true rfl) ?_
  refine f_O_mix  ?_
  show Ev none (d + 5) m_O_mixSeeming 21 [some (vR 0 0), some (vJ a1), none, none, none] [vJ (fn_O_mix s1 a1 (Int32.toInt64 (fn_S_restCount s1)))] s1 post
  refine ev_lstore_n (L' := [some (vR 0 0), some (vJ a1), none, some (vJ (fn_O_mix s1 a1 (Int32.toInt64 (fn_S_restCount s1)))), none]) d_O_mixSeeming_21 rfl (by decide) rfl ?_
  refine ev_lload_n d_O_mixSeeming_22 rfl rfl ?_
  refine ev_aload_n d_O_mixSeeming_23 rfl rfl ?_
  refine ev_getR gf_O_44 rfl (by decide) d_O_mixSeeming_24 ?_
  refine ev_iconst (v := 0) d_O_mixSeeming_27 (by decide) ?_
  obtain ⟨q2, K⟩ := K
  refine ev_callV (as := [vI (0 : Int32)]) (st := [vJ (fn_O_mix s1 a1 (Int32.toInt64 (fn_S_restCount s1)))]) (k := 6) (i := 0) g_S_restAt ml_O_227 rfl rfl (by decide) (by decide) d_O_mixSeeming_28 rfl rfl (Nat.le_of_ble_eq_true rfl) rfl (Nat.le_of_ble_eq_true rfl) ?_
  refine f_S_restAt q2 ?_
  show Ev none (d + 5) m_O_mixSeeming 31 [some (vR 0 0), some (vJ a1), none, some (vJ (fn_O_mix s1 a1 (Int32.toInt64 (fn_S_restCount s1)))), none] [vI (fn_S_restAt s1 (0 : Int32)), vJ (fn_O_mix s1 a1 (Int32.toInt64 (fn_S_restCount s1)))] s1 post
  refine ev_i2l d_O_mixSeeming_31 ?_
  refine ev_callS (as := [vJ (fn_O_mix s1 a1 (Int32.toInt64 (fn_S_restCount s1))), vJ (Int32.toInt64 (fn_S_restAt s1 (0 : Int32)))]) (st := []) g_O_mix ml_O_312 d_O_mixSeeming_32 rfl rfl (Nat.le_of_ble_eq_true rfl) rfl (Nat.le_of_ble_eq_true rfl) ?_
  refine f_O_mix  ?_
  show Ev none (d + 5) m_O_mixSeeming 35 [some (vR 0 0), some (vJ a1), none, some (vJ (fn_O_mix s1 a1 (Int32.toInt64 (fn_S_restCount s1)))), none] [vJ (fn_O_mix s1 (fn_O_mix s1 a1 (Int32.toInt64 (fn_S_restCount s1))) (Int32.toInt64 (fn_S_restAt s1 (0 : Int32))))] s1 post
  refine ev_lstore_n (L' := [some (vR 0 0), some (vJ a1), none, some (vJ (fn_O_mix s1 (fn_O_mix s1 a1 (Int32.toInt64 (fn_S_restCount s1))) (Int32.toInt64 (fn_S_restAt s1 (0 : Int32))))), none]) d_O_mixSeeming_35 rfl (by decide) rfl ?_
  refine ev_lload_n d_O_mixSeeming_36 rfl rfl ?_
  refine ev_aload_n d_O_mixSeeming_37 rfl rfl ?_
  refine ev_getR gf_O_44 rfl (by decide) d_O_mixSeeming_38 ?_
  refine ev_iconst (v := 0) d_O_mixSeeming_41 (by decide) ?_
  refine ev_iconst (v := 1) d_O_mixSeeming_42 (by decide) ?_
  refine ev_iconst (v := 2) d_O_mixSeeming_43 (by decide) ?_
  refine ev_iconst (v := 1) d_O_mixSeeming_44 (by decide) ?_
  refine ev_callV (as := [vI (0 : Int32), vI (1 : Int32), vI (2 : Int32), vI (1 : Int32)]) (st := [vJ (fn_O_mix s1 (fn_O_mix s1 a1 (Int32.toInt64 (fn_S_restCount s1))) (Int32.toInt64 (fn_S_restAt s1 (0 : Int32))))]) (k := 6) (i := 0) g_S_gainOf ml_O_216 rfl rfl (by decide) (by decide) d_O_mixSeeming_45 rfl rfl (Nat.le_of_ble_eq_true rfl) rfl (Nat.le_of_ble_eq_true rfl) ?_
  refine Ev.mono K ?_
  rintro _ s3 ⟨z4, rfl, K⟩
  show Ev none (d + 5) m_O_mixSeeming 48 [some (vR 0 0), some (vJ a1), none, some (vJ (fn_O_mix s1 (fn_O_mix s1 a1 (Int32.toInt64 (fn_S_restCount s1))) (Int32.toInt64 (fn_S_restAt s1 (0 : Int32))))), none] [vI z4, vJ (fn_O_mix s1 (fn_O_mix s1 a1 (Int32.toInt64 (fn_S_restCount s1))) (Int32.toInt64 (fn_S_restAt s1 (0 : Int32))))] s3 post
  refine ev_i2l d_O_mixSeeming_48 ?_
  refine ev_callS (as := [vJ (fn_O_mix s1 (fn_O_mix s1 a1 (Int32.toInt64 (fn_S_restCount s1))) (Int32.toInt64 (fn_S_restAt s1 (0 : Int32)))), vJ (Int32.toInt64 z4)]) (st := []) g_O_mix ml_O_312 d_O_mixSeeming_49 rfl rfl (Nat.le_of_ble_eq_true rfl) rfl (Nat.le_of_ble_eq_true rfl) ?_
  refine f_O_mix  ?_
  show Ev none (d + 5) m_O_mixSeeming 52 [some (vR 0 0), some (vJ a1), none, some (vJ (fn_O_mix s1 (fn_O_mix s1 a1 (Int32.toInt64 (fn_S_restCount s1))) (Int32.toInt64 (fn_S_restAt s1 (0 : Int32))))), none] [vJ (fn_O_mix s3 (fn_O_mix s1 (fn_O_mix s1 a1 (Int32.toInt64 (fn_S_restCount s1))) (Int32.toInt64 (fn_S_restAt s1 (0 : Int32)))) (Int32.toInt64 z4))] s3 post
  refine ev_lstore_n (L' := [some (vR 0 0), some (vJ a1), none, some (vJ (fn_O_mix s3 (fn_O_mix s1 (fn_O_mix s1 a1 (Int32.toInt64 (fn_S_restCount s1))) (Int32.toInt64 (fn_S_restAt s1 (0 : Int32)))) (Int32.toInt64 z4))), none]) d_O_mixSeeming_52 rfl (by decide) rfl ?_
  refine ev_lload_n d_O_mixSeeming_53 rfl rfl ?_
  refine ev_aload_n d_O_mixSeeming_54 rfl rfl ?_
  refine ev_getR gf_O_44 rfl (by decide) d_O_mixSeeming_55 ?_
  refine ev_iconst (v := 1) d_O_mixSeeming_58 (by decide) ?_
  refine ev_iconst (v := 0) d_O_mixSeeming_59 (by decide) ?_
  refine ev_iconst (v := 1) d_O_mixSeeming_60 (by decide) ?_
  refine ev_iconst (v := 2) d_O_mixSeeming_61 (by decide) ?_
  refine ev_callV (as := [vI (1 : Int32), vI (0 : Int32), vI (1 : Int32), vI (2 : Int32)]) (st := [vJ (fn_O_mix s3 (fn_O_mix s1 (fn_O_mix s1 a1 (Int32.toInt64 (fn_S_restCount s1))) (Int32.toInt64 (fn_S_restAt s1 (0 : Int32)))) (Int32.toInt64 z4))]) (k := 6) (i := 0) g_S_gainOf ml_O_216 rfl rfl (by decide) (by decide) d_O_mixSeeming_62 rfl rfl (Nat.le_of_ble_eq_true rfl) rfl (Nat.le_of_ble_eq_true rfl) ?_
  refine Ev.mono K ?_
  rintro _ s5 ⟨z6, rfl, K⟩
  show Ev none (d + 5) m_O_mixSeeming 65 [some (vR 0 0), some (vJ a1), none, some (vJ (fn_O_mix s3 (fn_O_mix s1 (fn_O_mix s1 a1 (Int32.toInt64 (fn_S_restCount s1))) (Int32.toInt64 (fn_S_restAt s1 (0 : Int32)))) (Int32.toInt64 z4))), none] [vI z6, vJ (fn_O_mix s3 (fn_O_mix s1 (fn_O_mix s1 a1 (Int32.toInt64 (fn_S_restCount s1))) (Int32.toInt64 (fn_S_restAt s1 (0 : Int32)))) (Int32.toInt64 z4))] s5 post
  refine ev_i2l d_O_mixSeeming_65 ?_
  refine ev_callS (as := [vJ (fn_O_mix s3 (fn_O_mix s1 (fn_O_mix s1 a1 (Int32.toInt64 (fn_S_restCount s1))) (Int32.toInt64 (fn_S_restAt s1 (0 : Int32)))) (Int32.toInt64 z4)), vJ (Int32.toInt64 z6)]) (st := []) g_O_mix ml_O_312 d_O_mixSeeming_66 rfl rfl (Nat.le_of_ble_eq_true rfl) rfl (Nat.le_of_ble_eq_true rfl) ?_
  refine f_O_mix  ?_
  show Ev none (d + 5) m_O_mixSeeming 69 [some (vR 0 0), some (vJ a1), none, some (vJ (fn_O_mix s3 (fn_O_mix s1 (fn_O_mix s1 a1 (Int32.toInt64 (fn_S_restCount s1))) (Int32.toInt64 (fn_S_restAt s1 (0 : Int32)))) (Int32.toInt64 z4))), none] [vJ (fn_O_mix s5 (fn_O_mix s3 (fn_O_mix s1 (fn_O_mix s1 a1 (Int32.toInt64 (fn_S_restCount s1))) (Int32.toInt64 (fn_S_restAt s1 (0 : Int32)))) (Int32.toInt64 z4)) (Int32.toInt64 z6))] s5 post
  exact ev_ret (r := some (vJ (fn_O_mix s5 (fn_O_mix s3 (fn_O_mix s1 (fn_O_mix s1 a1 (Int32.toInt64 (fn_S_restCount s1))) (Int32.toInt64 (fn_S_restAt s1 (0 : Int32)))) (Int32.toInt64 z4)) (Int32.toInt64 z6)))) d_O_mixSeeming_69 rfl rfl K
set_option maxRecDepth 4000 in
theorem sg_O_pairs_0 {d : Nat} {σ : ST} {a1 : Int32} {a2 : Int32} {post : Option AV → ST → Prop} (K : ((fp_O_isCompany σ a1) → (((a2 = (-1 : Int32)) → ((((irm (fn_J_bitCount σ a1) (2 : Int32)) = 0) → (Ev none (d + 4) m_T_seat 0 [some (vR 7 0), some (vI a1), none, none, none] [] σ (fun r s4 => r = none ∧ (((a2 = (-1 : Int32)) → (post (some (vI (fn_T_minutes s4))) s4)) ∧ (¬ (a2 = (-1 : Int32)) → ((fs_T_partnerOf s4 a2) ∧ (post (some (vI (fn_T_partnerOf s4 a2))) s4))))))) ∧ (¬ ((irm (fn_J_bitCount σ a1) (2 : Int32)) = 0) → (post (some (vI (-3 : Int32))) σ)))) ∧ (¬ (a2 = (-1 : Int32)) → ((((fp_O_isReader σ a2) ∧ (fp_O_holds σ a1 a2)) → ((((irm (fn_J_bitCount σ a1) (2 : Int32)) = 0) → (Ev none (d + 4) m_T_seat 0 [some (vR 7 0), some (vI a1), none, none, none] [] σ (fun r s10 => r = none ∧ (((a2 = (-1 : Int32)) → (post (some (vI (fn_T_minutes s10))) s10)) ∧ (¬ (a2 = (-1 : Int32)) → ((fs_T_partnerOf s10 a2) ∧ (post (some (vI (fn_T_partnerOf s10 a2))) s10))))))) ∧ (¬ ((irm (fn_J_bitCount σ a1) (2 : Int32)) = 0) → (post (some (vI (-3 : Int32))) σ)))) ∧ (¬ ((fp_O_isReader σ a2) ∧ (fp_O_holds σ a1 a2)) → (post (some (vI (-2 : Int32))) σ)))))) ∧ (¬ (fp_O_isCompany σ a1) → (post (some (vI (-2 : Int32))) σ))) : Ev none (d + 5) m_O_pairs 0 [some (vR 0 0), some (vI a1), some (vI a2)] [] σ post := by
  refine ev_iload_n d_O_pairs_0 rfl rfl ?_
  refine ev_callS (as := [vI a1]) (st := []) g_O_isCompany ml_O_172 d_O_pairs_1 rfl rfl (Nat.le_of_ble_eq_true rfl) rfl (Nat.le_of_ble_eq_true rfl) ?_
  refine f_O_isCompany  ?_
  show Ev none (d + 5) m_O_pairs 4 [some (vR 0 0), some (vI a1), some (vI a2)] [vI (bi (fp_O_isCompany σ a1))] σ post
  refine ev_ifb_ne (tgt := 10) d_O_pairs_4 rfl (fun h1 => ?_) (fun h1 => ?_)
  · replace K := K.1 h1
    refine ev_iload_n d_O_pairs_10 rfl rfl ?_
    refine ev_iconst (v := -1) d_O_pairs_11 (by decide) ?_
    refine ev_icmp_eq (tgt := 33) d_O_pairs_12 rfl (fun h2 => ?_) (fun h2 => ?_)
    · replace K := K.1 h2
      refine ev_iload_n d_O_pairs_33 rfl rfl ?_
      refine ev_callS (as := [vI a1]) (st := []) g_J_bitCount ml_O_230 d_O_pairs_34 rfl rfl (Nat.le_of_ble_eq_true rfl) rfl (Nat.le_of_ble_eq_true rfl) ?_
      refine f_J_bitCount  ?_
      show Ev none (d + 5) m_O_pairs 37 [some (vR 0 0), some (vI a1), some (vI a2)] [vI (fn_J_bitCount σ a1)] σ post
      refine ev_iconst (v := 2) d_O_pairs_37 (by decide) ?_
      refine ev_irem d_O_pairs_38 (by decide) ?_
      refine ev_if_eq (tgt := 45) d_O_pairs_39 rfl (fun h3 => ?_) (fun h3 => ?_)
      · replace K := K.1 h3
        refine ev_aload_n d_O_pairs_45 rfl rfl ?_
        refine ev_getR gf_O_51 rfl (by decide) d_O_pairs_46 ?_
        refine ev_iload_n d_O_pairs_49 rfl rfl ?_
        refine ev_callV (as := [vI a1]) (st := []) (k := 7) (i := 0) g_T_seat ml_O_235 rfl rfl (by decide) (by decide) d_O_pairs_50 rfl rfl (Nat.le_of_ble_eq_true rfl) rfl (Nat.le_of_ble_eq_true rfl) ?_
        refine Ev.mono K ?_
        rintro _ s4 ⟨rfl, K⟩
        show Ev none (d + 5) m_O_pairs 53 [some (vR 0 0), some (vI a1), some (vI a2)] [] s4 post
        refine ev_iload_n d_O_pairs_53 rfl rfl ?_
        refine ev_iconst (v := -1) d_O_pairs_54 (by decide) ?_
        refine ev_icmp_ne (tgt := 68) d_O_pairs_55 rfl (fun h5 => ?_) (fun h5 => ?_)
        · replace K := K.2 h5
          refine ev_aload_n d_O_pairs_68 rfl rfl ?_
          refine ev_getR gf_O_51 rfl (by decide) d_O_pairs_69 ?_
          refine ev_iload_n d_O_pairs_72 rfl rfl ?_
          obtain ⟨q6, K⟩ := K
          refine ev_callV (as := [vI a2]) (st := []) (k := 7) (i := 0) g_T_partnerOf ml_O_240 rfl rfl (by decide) (by decide) d_O_pairs_73 rfl rfl (Nat.le_of_ble_eq_true rfl) rfl (Nat.le_of_ble_eq_true rfl) ?_
          refine f_T_partnerOf q6 ?_
          show Ev none (d + 5) m_O_pairs 76 [some (vR 0 0), some (vI a1), some (vI a2)] [vI (fn_T_partnerOf s4 a2)] s4 post
          exact ev_ret (r := some (vI (fn_T_partnerOf s4 a2))) d_O_pairs_76 rfl rfl K
        · replace K := K.1 h5
          refine ev_aload_n d_O_pairs_58 rfl rfl ?_
          refine ev_getR gf_O_51 rfl (by decide) d_O_pairs_59 ?_
          refine ev_callV (as := []) (st := []) (k := 7) (i := 0) g_T_minutes ml_O_239 rfl rfl (by decide) (by decide) d_O_pairs_62 rfl rfl (Nat.le_of_ble_eq_true rfl) rfl (Nat.le_of_ble_eq_true rfl) ?_
          refine f_T_minutes  ?_
          show Ev none (d + 5) m_O_pairs 65 [some (vR 0 0), some (vI a1), some (vI a2)] [vI (fn_T_minutes s4)] s4 post
          refine ev_goto (tgt := 76) d_O_pairs_65 rfl ?_
          exact ev_ret (r := some (vI (fn_T_minutes s4))) d_O_pairs_76 rfl rfl K
      · replace K := K.2 h3
        refine ev_bipush (v := -3) d_O_pairs_42 (by decide) ?_
        exact ev_ret (r := some (vI (-3 : Int32))) d_O_pairs_44 rfl rfl K
    · replace K := K.2 h2
      refine ev_iload_n d_O_pairs_15 rfl rfl ?_
      refine ev_callS (as := [vI a2]) (st := []) g_O_isReader ml_O_121 d_O_pairs_16 rfl rfl (Nat.le_of_ble_eq_true rfl) rfl (Nat.le_of_ble_eq_true rfl) ?_
      refine f_O_isReader  ?_
      show Ev none (d + 5) m_O_pairs 19 [some (vR 0 0), some (vI a1), some (vI a2)] [vI (bi (fp_O_isReader σ a2))] σ post
      obtain ⟨w7, e8⟩ : ∃ w : Int32, w = bi ((fp_O_isReader σ a2) ∧ (fp_O_holds σ a1 a2)) := ⟨_, rfl⟩
      have J1 : w7 = 1 → Ev none (d + 5) m_O_pairs 33 [some (vR 0 0), some (vI a1), some (vI a2)] [] σ post := by
        intro e81
        replace K := K.1 (bi_1.mp ((e8.symm).trans e81))
        refine ev_iload_n d_O_pairs_33 rfl rfl ?_
        refine ev_callS (as := [vI a1]) (st := []) g_J_bitCount ml_O_230 d_O_pairs_34 rfl rfl (Nat.le_of_ble_eq_true rfl) rfl (Nat.le_of_ble_eq_true rfl) ?_
        refine f_J_bitCount  ?_
        show Ev none (d + 5) m_O_pairs 37 [some (vR 0 0), some (vI a1), some (vI a2)] [vI (fn_J_bitCount σ a1)] σ post
        refine ev_iconst (v := 2) d_O_pairs_37 (by decide) ?_
        refine ev_irem d_O_pairs_38 (by decide) ?_
        refine ev_if_eq (tgt := 45) d_O_pairs_39 rfl (fun h9 => ?_) (fun h9 => ?_)
        · replace K := K.1 h9
          refine ev_aload_n d_O_pairs_45 rfl rfl ?_
          refine ev_getR gf_O_51 rfl (by decide) d_O_pairs_46 ?_
          refine ev_iload_n d_O_pairs_49 rfl rfl ?_
          refine ev_callV (as := [vI a1]) (st := []) (k := 7) (i := 0) g_T_seat ml_O_235 rfl rfl (by decide) (by decide) d_O_pairs_50 rfl rfl (Nat.le_of_ble_eq_true rfl) rfl (Nat.le_of_ble_eq_true rfl) ?_
          refine Ev.mono K ?_
          rintro _ s10 ⟨rfl, K⟩
          show Ev none (d + 5) m_O_pairs 53 [some (vR 0 0), some (vI a1), some (vI a2)] [] s10 post
          refine ev_iload_n d_O_pairs_53 rfl rfl ?_
          refine ev_iconst (v := -1) d_O_pairs_54 (by decide) ?_
          refine ev_icmp_ne (tgt := 68) d_O_pairs_55 rfl (fun h11 => ?_) (fun h11 => ?_)
          · replace K := K.2 h11
            refine ev_aload_n d_O_pairs_68 rfl rfl ?_
            refine ev_getR gf_O_51 rfl (by decide) d_O_pairs_69 ?_
            refine ev_iload_n d_O_pairs_72 rfl rfl ?_
            obtain ⟨q12, K⟩ := K
            refine ev_callV (as := [vI a2]) (st := []) (k := 7) (i := 0) g_T_partnerOf ml_O_240 rfl rfl (by decide) (by decide) d_O_pairs_73 rfl rfl (Nat.le_of_ble_eq_true rfl) rfl (Nat.le_of_ble_eq_true rfl) ?_
            refine f_T_partnerOf q12 ?_
            show Ev none (d + 5) m_O_pairs 76 [some (vR 0 0), some (vI a1), some (vI a2)] [vI (fn_T_partnerOf s10 a2)] s10 post
            exact ev_ret (r := some (vI (fn_T_partnerOf s10 a2))) d_O_pairs_76 rfl rfl K
          · replace K := K.1 h11
            refine ev_aload_n d_O_pairs_58 rfl rfl ?_
            refine ev_getR gf_O_51 rfl (by decide) d_O_pairs_59 ?_
            refine ev_callV (as := []) (st := []) (k := 7) (i := 0) g_T_minutes ml_O_239 rfl rfl (by decide) (by decide) d_O_pairs_62 rfl rfl (Nat.le_of_ble_eq_true rfl) rfl (Nat.le_of_ble_eq_true rfl) ?_
            refine f_T_minutes  ?_
            show Ev none (d + 5) m_O_pairs 65 [some (vR 0 0), some (vI a1), some (vI a2)] [vI (fn_T_minutes s10)] s10 post
            refine ev_goto (tgt := 76) d_O_pairs_65 rfl ?_
            exact ev_ret (r := some (vI (fn_T_minutes s10))) d_O_pairs_76 rfl rfl K
        · replace K := K.2 h9
          refine ev_bipush (v := -3) d_O_pairs_42 (by decide) ?_
          exact ev_ret (r := some (vI (-3 : Int32))) d_O_pairs_44 rfl rfl K
      have J0 : w7 = 0 → Ev none (d + 5) m_O_pairs 30 [some (vR 0 0), some (vI a1), some (vI a2)] [] σ post := by
        intro e80
        replace K := K.2 (bi_0.mp ((e8.symm).trans e80))
        refine ev_bipush (v := -2) d_O_pairs_30 (by decide) ?_
        exact ev_ret (r := some (vI (-2 : Int32))) d_O_pairs_32 rfl rfl K
      clear K
      refine ev_ifb_eq (tgt := 30) d_O_pairs_19 rfl (fun h13 => ?_) (fun h13 => ?_)
      · rw [b3f h13] at e8
        exact J0 e8
      · rw [b3t h13] at e8
        refine ev_iload_n d_O_pairs_22 rfl rfl ?_
        refine ev_iload_n d_O_pairs_23 rfl rfl ?_
        refine ev_callS (as := [vI a1, vI a2]) (st := []) g_O_holds ml_O_188 d_O_pairs_24 rfl rfl (Nat.le_of_ble_eq_true rfl) rfl (Nat.le_of_ble_eq_true rfl) ?_
        refine f_O_holds  ?_
        show Ev none (d + 5) m_O_pairs 27 [some (vR 0 0), some (vI a1), some (vI a2)] [vI (bi (fp_O_holds σ a1 a2))] σ post
        refine ev_ifb_ne (tgt := 33) d_O_pairs_27 rfl (fun h14 => ?_) (fun h14 => ?_)
        · rw [bi_t h14] at e8
          exact J1 e8
        · rw [bi_f h14] at e8
          exact J0 e8
  · replace K := K.2 h1
    refine ev_bipush (v := -2) d_O_pairs_7 (by decide) ?_
    exact ev_ret (r := some (vI (-2 : Int32))) d_O_pairs_9 rfl rfl K
set_option maxRecDepth 4000 in
theorem sg_O_rests_0 {d : Nat} {σ : ST} {a1 : Int32} {a2 : Int32} {a3 : Int32} {post : Option AV → ST → Prop} (K : (((fp_O_areTwo σ a1 a2) ∧ ((-1 : Int32) ≤ a3)) → (Ev none (d + 4) m_S_findRests 0 [some (vR 6 0), some (vI a1), some (vI a2), none] [] σ (fun r s3 => r = none ∧ (((a3 = (-1 : Int32)) → (post (some (vI (fn_S_restCount s3))) s3)) ∧ (¬ (a3 = (-1 : Int32)) → ((fs_S_restAt s3 a3) ∧ (post (some (vI (fn_S_restAt s3 a3))) s3))))))) ∧ (¬ ((fp_O_areTwo σ a1 a2) ∧ ((-1 : Int32) ≤ a3)) → (post (some (vI (-2 : Int32))) σ))) : Ev none (d + 5) m_O_rests 0 [some (vR 0 0), some (vI a1), some (vI a2), some (vI a3)] [] σ post := by
  refine ev_iload_n d_O_rests_0 rfl rfl ?_
  refine ev_iload_n d_O_rests_1 rfl rfl ?_
  refine ev_callS (as := [vI a1, vI a2]) (st := []) g_O_areTwo ml_O_198 d_O_rests_2 rfl rfl (Nat.le_of_ble_eq_true rfl) rfl (Nat.le_of_ble_eq_true rfl) ?_
  refine f_O_areTwo  ?_
  show Ev none (d + 5) m_O_rests 5 [some (vR 0 0), some (vI a1), some (vI a2), some (vI a3)] [vI (bi (fp_O_areTwo σ a1 a2))] σ post
  obtain ⟨w1, e2⟩ : ∃ w : Int32, w = bi ((fp_O_areTwo σ a1 a2) ∧ ((-1 : Int32) ≤ a3)) := ⟨_, rfl⟩
  have J1 : w1 = 1 → Ev none (d + 5) m_O_rests 16 [some (vR 0 0), some (vI a1), some (vI a2), some (vI a3)] [] σ post := by
    intro e21
    replace K := K.1 (bi_1.mp ((e2.symm).trans e21))
    refine ev_aload_n d_O_rests_16 rfl rfl ?_
    refine ev_getR gf_O_44 rfl (by decide) d_O_rests_17 ?_
    refine ev_iload_n d_O_rests_20 rfl rfl ?_
    refine ev_iload_n d_O_rests_21 rfl rfl ?_
    refine ev_callV (as := [vI a1, vI a2]) (st := []) (k := 6) (i := 0) g_S_findRests ml_O_220 rfl rfl (by decide) (by decide) d_O_rests_22 rfl rfl (Nat.le_of_ble_eq_true rfl) rfl (Nat.le_of_ble_eq_true rfl) ?_
    refine Ev.mono K ?_
    rintro _ s3 ⟨rfl, K⟩
    show Ev none (d + 5) m_O_rests 25 [some (vR 0 0), some (vI a1), some (vI a2), some (vI a3)] [] s3 post
    refine ev_iload_n d_O_rests_25 rfl rfl ?_
    refine ev_iconst (v := -1) d_O_rests_26 (by decide) ?_
    refine ev_icmp_ne (tgt := 40) d_O_rests_27 rfl (fun h4 => ?_) (fun h4 => ?_)
    · replace K := K.2 h4
      refine ev_aload_n d_O_rests_40 rfl rfl ?_
      refine ev_getR gf_O_44 rfl (by decide) d_O_rests_41 ?_
      refine ev_iload_n d_O_rests_44 rfl rfl ?_
      obtain ⟨q5, K⟩ := K
      refine ev_callV (as := [vI a3]) (st := []) (k := 6) (i := 0) g_S_restAt ml_O_227 rfl rfl (by decide) (by decide) d_O_rests_45 rfl rfl (Nat.le_of_ble_eq_true rfl) rfl (Nat.le_of_ble_eq_true rfl) ?_
      refine f_S_restAt q5 ?_
      show Ev none (d + 5) m_O_rests 48 [some (vR 0 0), some (vI a1), some (vI a2), some (vI a3)] [vI (fn_S_restAt s3 a3)] s3 post
      exact ev_ret (r := some (vI (fn_S_restAt s3 a3))) d_O_rests_48 rfl rfl K
    · replace K := K.1 h4
      refine ev_aload_n d_O_rests_30 rfl rfl ?_
      refine ev_getR gf_O_44 rfl (by decide) d_O_rests_31 ?_
      refine ev_callV (as := []) (st := []) (k := 6) (i := 0) g_S_restCount ml_O_224 rfl rfl (by decide) (by decide) d_O_rests_34 rfl rfl (Nat.le_of_ble_eq_true rfl) rfl (Nat.le_of_ble_eq_true rfl) ?_
      refine f_S_restCount  ?_
      show Ev none (d + 5) m_O_rests 37 [some (vR 0 0), some (vI a1), some (vI a2), some (vI a3)] [vI (fn_S_restCount s3)] s3 post
      refine ev_goto (tgt := 48) d_O_rests_37 rfl ?_
      exact ev_ret (r := some (vI (fn_S_restCount s3))) d_O_rests_48 rfl rfl K
  have J0 : w1 = 0 → Ev none (d + 5) m_O_rests 13 [some (vR 0 0), some (vI a1), some (vI a2), some (vI a3)] [] σ post := by
    intro e20
    replace K := K.2 (bi_0.mp ((e2.symm).trans e20))
    refine ev_bipush (v := -2) d_O_rests_13 (by decide) ?_
    exact ev_ret (r := some (vI (-2 : Int32))) d_O_rests_15 rfl rfl K
  clear K
  refine ev_ifb_eq (tgt := 13) d_O_rests_5 rfl (fun h6 => ?_) (fun h6 => ?_)
  · rw [b3f h6] at e2
    exact J0 e2
  · rw [b3t h6] at e2
    refine ev_iload_n d_O_rests_8 rfl rfl ?_
    refine ev_iconst (v := -1) d_O_rests_9 (by decide) ?_
    refine ev_icmp_ge (tgt := 16) d_O_rests_10 rfl (fun h7 => ?_) (fun h7 => ?_)
    · rw [bi_t h7] at e2
      exact J1 e2
    · rw [bi_f h7] at e2
      exact J0 e2
set_option maxRecDepth 4000 in
theorem sg_O_type_0 {d : Nat} {σ : ST} {a1 : Int32} {post : Option AV → ST → Prop} (K : ((fp_O_within σ a1 (0 : Int32) (255 : Int32)) → (Ev none (d + 4) m_B_append 0 [some (vR 1 0), some (vI a1)] [] σ (fun r s2 => ∃ z3 : Int32, r = some (vI z3) ∧ (((z3 = 0) → (post (some (vI (-4 : Int32))) s2)) ∧ (¬ (z3 = 0) → (post (some (vI (fn_B_size s2))) s2)))))) ∧ (¬ (fp_O_within σ a1 (0 : Int32) (255 : Int32)) → (post (some (vI (-2 : Int32))) σ))) : Ev none (d + 5) m_O_type 0 [some (vR 0 0), some (vI a1)] [] σ post := by
  refine ev_iload_n d_O_type_0 rfl rfl ?_
  refine ev_iconst (v := 0) d_O_type_1 (by decide) ?_
  refine ev_sipush (v := 255) d_O_type_2 (by decide) ?_
  refine ev_callS (as := [vI a1, vI (0 : Int32), vI (255 : Int32)]) (st := []) g_O_within ml_O_86 d_O_type_5 rfl rfl (Nat.le_of_ble_eq_true rfl) rfl (Nat.le_of_ble_eq_true rfl) ?_
  refine f_O_within  ?_
  show Ev none (d + 5) m_O_type 8 [some (vR 0 0), some (vI a1)] [vI (bi (fp_O_within σ a1 (0 : Int32) (255 : Int32)))] σ post
  refine ev_ifb_ne (tgt := 14) d_O_type_8 rfl (fun h1 => ?_) (fun h1 => ?_)
  · replace K := K.1 h1
    refine ev_aload_n d_O_type_14 rfl rfl ?_
    refine ev_getR gf_O_10 rfl (by decide) d_O_type_15 ?_
    refine ev_iload_n d_O_type_18 rfl rfl ?_
    refine ev_callV (as := [vI a1]) (st := []) (k := 1) (i := 0) g_B_append ml_O_90 rfl rfl (by decide) (by decide) d_O_type_19 rfl rfl (Nat.le_of_ble_eq_true rfl) rfl (Nat.le_of_ble_eq_true rfl) ?_
    refine Ev.mono K ?_
    rintro _ s2 ⟨z3, rfl, K⟩
    show Ev none (d + 5) m_O_type 22 [some (vR 0 0), some (vI a1)] [vI z3] s2 post
    refine ev_if_eq (tgt := 35) d_O_type_22 rfl (fun h4 => ?_) (fun h4 => ?_)
    · replace K := K.1 h4
      refine ev_bipush (v := -4) d_O_type_35 (by decide) ?_
      exact ev_ret (r := some (vI (-4 : Int32))) d_O_type_37 rfl rfl K
    · replace K := K.2 h4
      refine ev_aload_n d_O_type_25 rfl rfl ?_
      refine ev_getR gf_O_10 rfl (by decide) d_O_type_26 ?_
      refine ev_callV (as := []) (st := []) (k := 1) (i := 0) g_B_size ml_O_94 rfl rfl (by decide) (by decide) d_O_type_29 rfl rfl (Nat.le_of_ble_eq_true rfl) rfl (Nat.le_of_ble_eq_true rfl) ?_
      refine f_B_size  ?_
      show Ev none (d + 5) m_O_type 32 [some (vR 0 0), some (vI a1)] [vI (fn_B_size s2)] s2 post
      refine ev_goto (tgt := 37) d_O_type_32 rfl ?_
      exact ev_ret (r := some (vI (fn_B_size s2))) d_O_type_37 rfl rfl K
  · replace K := K.2 h1
    refine ev_bipush (v := -2) d_O_type_11 (by decide) ?_
    exact ev_ret (r := some (vI (-2 : Int32))) d_O_type_13 rfl rfl K
set_option maxRecDepth 4000 in
theorem sg_O_waited_0 {d : Nat} {σ : ST} {a1 : Int32} {a2 : Int32} {a3 : Int32} {a4 : Int32} {post : Option AV → ST → Prop} (K : ((fp_O_isCompany σ a1) → (((fp_O_isChapter σ a2) → (((fp_O_within σ a4 (0 : Int32) (1 : Int32)) → ((((fp_O_isReader σ a3) ∧ (fp_O_holds σ a1 a3)) → (Ev none (d + 4) m_E_sit 0 [some (vR 4 0), some (vI a1), some (vI a2), some (vI (σ.1 0 0 9)), none] [] σ (fun r s6 => r = none ∧ (((a4 = 0) → ((fs_E_waitOf s6 a3) ∧ (post (some (vI (fn_E_waitOf s6 a3))) s6))) ∧ (¬ (a4 = 0) → ((fs_E_workLeft s6 a3) ∧ (post (some (vI (fn_E_workLeft s6 a3))) s6))))))) ∧ (¬ ((fp_O_isReader σ a3) ∧ (fp_O_holds σ a1 a3)) → (post (some (vI (-2 : Int32))) σ)))) ∧ (¬ (fp_O_within σ a4 (0 : Int32) (1 : Int32)) → (post (some (vI (-2 : Int32))) σ)))) ∧ (¬ (fp_O_isChapter σ a2) → (post (some (vI (-2 : Int32))) σ)))) ∧ (¬ (fp_O_isCompany σ a1) → (post (some (vI (-2 : Int32))) σ))) : Ev none (d + 5) m_O_waited 0 [some (vR 0 0), some (vI a1), some (vI a2), some (vI a3), some (vI a4)] [] σ post := by
  refine ev_iload_n d_O_waited_0 rfl rfl ?_
  refine ev_callS (as := [vI a1]) (st := []) g_O_isCompany ml_O_172 d_O_waited_1 rfl rfl (Nat.le_of_ble_eq_true rfl) rfl (Nat.le_of_ble_eq_true rfl) ?_
  refine f_O_isCompany  ?_
  show Ev none (d + 5) m_O_waited 4 [some (vR 0 0), some (vI a1), some (vI a2), some (vI a3), some (vI a4)] [vI (bi (fp_O_isCompany σ a1))] σ post
  refine ev_ifb_eq (tgt := 25) d_O_waited_4 rfl (fun h1 => ?_) (fun h1 => ?_)
  · replace K := K.2 h1
    refine ev_bipush (v := -2) d_O_waited_25 (by decide) ?_
    exact ev_ret (r := some (vI (-2 : Int32))) d_O_waited_27 rfl rfl K
  · replace K := K.1 h1
    refine ev_aload_n d_O_waited_7 rfl rfl ?_
    refine ev_iload_n d_O_waited_8 rfl rfl ?_
    refine ev_callV (as := [vI a2]) (st := []) (k := 0) (i := 0) g_O_isChapter ml_O_104 rfl rfl (by decide) (by decide) d_O_waited_9 rfl rfl (Nat.le_of_ble_eq_true rfl) rfl (Nat.le_of_ble_eq_true rfl) ?_
    refine f_O_isChapter  ?_
    show Ev none (d + 5) m_O_waited 12 [some (vR 0 0), some (vI a1), some (vI a2), some (vI a3), some (vI a4)] [vI (bi (fp_O_isChapter σ a2))] σ post
    refine ev_ifb_eq (tgt := 25) d_O_waited_12 rfl (fun h2 => ?_) (fun h2 => ?_)
    · replace K := K.2 h2
      refine ev_bipush (v := -2) d_O_waited_25 (by decide) ?_
      exact ev_ret (r := some (vI (-2 : Int32))) d_O_waited_27 rfl rfl K
    · replace K := K.1 h2
      refine ev_iload d_O_waited_15 rfl ?_
      refine ev_iconst (v := 0) d_O_waited_17 (by decide) ?_
      refine ev_iconst (v := 1) d_O_waited_18 (by decide) ?_
      refine ev_callS (as := [vI a4, vI (0 : Int32), vI (1 : Int32)]) (st := []) g_O_within ml_O_86 d_O_waited_19 rfl rfl (Nat.le_of_ble_eq_true rfl) rfl (Nat.le_of_ble_eq_true rfl) ?_
      refine f_O_within  ?_
      show Ev none (d + 5) m_O_waited 22 [some (vR 0 0), some (vI a1), some (vI a2), some (vI a3), some (vI a4)] [vI (bi (fp_O_within σ a4 (0 : Int32) (1 : Int32)))] σ post
      refine ev_ifb_ne (tgt := 28) d_O_waited_22 rfl (fun h3 => ?_) (fun h3 => ?_)
      · replace K := K.1 h3
        refine ev_iload_n d_O_waited_28 rfl rfl ?_
        refine ev_callS (as := [vI a3]) (st := []) g_O_isReader ml_O_121 d_O_waited_29 rfl rfl (Nat.le_of_ble_eq_true rfl) rfl (Nat.le_of_ble_eq_true rfl) ?_
        refine f_O_isReader  ?_
        show Ev none (d + 5) m_O_waited 32 [some (vR 0 0), some (vI a1), some (vI a2), some (vI a3), some (vI a4)] [vI (bi (fp_O_isReader σ a3))] σ post
        obtain ⟨w4, e5⟩ : ∃ w : Int32, w = bi ((fp_O_isReader σ a3) ∧ (fp_O_holds σ a1 a3)) := ⟨_, rfl⟩
        have J1 : w4 = 1 → Ev none (d + 5) m_O_waited 46 [some (vR 0 0), some (vI a1), some (vI a2), some (vI a3), some (vI a4)] [] σ post := by
          intro e51
          replace K := K.1 (bi_1.mp ((e5.symm).trans e51))
          refine ev_aload_n d_O_waited_46 rfl rfl ?_
          refine ev_getR gf_O_30 rfl (by decide) d_O_waited_47 ?_
          refine ev_iload_n d_O_waited_50 rfl rfl ?_
          refine ev_iload_n d_O_waited_51 rfl rfl ?_
          refine ev_aload_n d_O_waited_52 rfl rfl ?_
          refine ev_getI gf_O_76 rfl (by decide) d_O_waited_53 ?_
          refine ev_callV (as := [vI a1, vI a2, vI (σ.1 0 0 9)]) (st := []) (k := 4) (i := 0) g_E_sit ml_O_175 rfl rfl (by decide) (by decide) d_O_waited_56 rfl rfl (Nat.le_of_ble_eq_true rfl) rfl (Nat.le_of_ble_eq_true rfl) ?_
          refine Ev.mono K ?_
          rintro _ s6 ⟨rfl, K⟩
          show Ev none (d + 5) m_O_waited 59 [some (vR 0 0), some (vI a1), some (vI a2), some (vI a3), some (vI a4)] [] s6 post
          refine ev_iload d_O_waited_59 rfl ?_
          refine ev_if_ne (tgt := 75) d_O_waited_61 rfl (fun h7 => ?_) (fun h7 => ?_)
          · replace K := K.2 h7
            refine ev_aload_n d_O_waited_75 rfl rfl ?_
            refine ev_getR gf_O_30 rfl (by decide) d_O_waited_76 ?_
            refine ev_iload_n d_O_waited_79 rfl rfl ?_
            obtain ⟨q8, K⟩ := K
            refine ev_callV (as := [vI a3]) (st := []) (k := 4) (i := 0) g_E_workLeft ml_O_195 rfl rfl (by decide) (by decide) d_O_waited_80 rfl rfl (Nat.le_of_ble_eq_true rfl) rfl (Nat.le_of_ble_eq_true rfl) ?_
            refine f_E_workLeft q8 ?_
            show Ev none (d + 5) m_O_waited 83 [some (vR 0 0), some (vI a1), some (vI a2), some (vI a3), some (vI a4)] [vI (fn_E_workLeft s6 a3)] s6 post
            exact ev_ret (r := some (vI (fn_E_workLeft s6 a3))) d_O_waited_83 rfl rfl K
          · replace K := K.1 h7
            refine ev_aload_n d_O_waited_64 rfl rfl ?_
            refine ev_getR gf_O_30 rfl (by decide) d_O_waited_65 ?_
            refine ev_iload_n d_O_waited_68 rfl rfl ?_
            obtain ⟨q9, K⟩ := K
            refine ev_callV (as := [vI a3]) (st := []) (k := 4) (i := 0) g_E_waitOf ml_O_192 rfl rfl (by decide) (by decide) d_O_waited_69 rfl rfl (Nat.le_of_ble_eq_true rfl) rfl (Nat.le_of_ble_eq_true rfl) ?_
            refine f_E_waitOf q9 ?_
            show Ev none (d + 5) m_O_waited 72 [some (vR 0 0), some (vI a1), some (vI a2), some (vI a3), some (vI a4)] [vI (fn_E_waitOf s6 a3)] s6 post
            refine ev_goto (tgt := 83) d_O_waited_72 rfl ?_
            exact ev_ret (r := some (vI (fn_E_waitOf s6 a3))) d_O_waited_83 rfl rfl K
        have J0 : w4 = 0 → Ev none (d + 5) m_O_waited 43 [some (vR 0 0), some (vI a1), some (vI a2), some (vI a3), some (vI a4)] [] σ post := by
          intro e50
          replace K := K.2 (bi_0.mp ((e5.symm).trans e50))
          refine ev_bipush (v := -2) d_O_waited_43 (by decide) ?_
          exact ev_ret (r := some (vI (-2 : Int32))) d_O_waited_45 rfl rfl K
        clear K
        refine ev_ifb_eq (tgt := 43) d_O_waited_32 rfl (fun h10 => ?_) (fun h10 => ?_)
        · rw [b3f h10] at e5
          exact J0 e5
        · rw [b3t h10] at e5
          refine ev_iload_n d_O_waited_35 rfl rfl ?_
          refine ev_iload_n d_O_waited_36 rfl rfl ?_
          refine ev_callS (as := [vI a1, vI a3]) (st := []) g_O_holds ml_O_188 d_O_waited_37 rfl rfl (Nat.le_of_ble_eq_true rfl) rfl (Nat.le_of_ble_eq_true rfl) ?_
          refine f_O_holds  ?_
          show Ev none (d + 5) m_O_waited 40 [some (vR 0 0), some (vI a1), some (vI a2), some (vI a3), some (vI a4)] [vI (bi (fp_O_holds σ a1 a3))] σ post
          refine ev_ifb_ne (tgt := 46) d_O_waited_40 rfl (fun h11 => ?_) (fun h11 => ?_)
          · rw [bi_t h11] at e5
            exact J1 e5
          · rw [bi_f h11] at e5
            exact J0 e5
      · replace K := K.2 h3
        refine ev_bipush (v := -2) d_O_waited_25 (by decide) ?_
        exact ev_ret (r := some (vI (-2 : Int32))) d_O_waited_27 rfl rfl K
set_option maxRecDepth 4000 in
theorem sg_O_wipe_0 {d : Nat} {σ : ST}  {post : Option AV → ST → Prop} (K : Ev none (d + 4) m_B_clear 0 [some (vR 1 0)] [] σ (fun r s1 => r = none ∧ (post (some (vI (fn_B_size σ))) s1))) : Ev none (d + 5) m_O_wipe 0 [some (vR 0 0), none] [] σ post := by
  refine ev_aload_n d_O_wipe_0 rfl rfl ?_
  refine ev_getR gf_O_10 rfl (by decide) d_O_wipe_1 ?_
  refine ev_callV (as := []) (st := []) (k := 1) (i := 0) g_B_size ml_O_94 rfl rfl (by decide) (by decide) d_O_wipe_4 rfl rfl (Nat.le_of_ble_eq_true rfl) rfl (Nat.le_of_ble_eq_true rfl) ?_
  refine f_B_size  ?_
  show Ev none (d + 5) m_O_wipe 7 [some (vR 0 0), none] [vI (fn_B_size σ)] σ post
  refine ev_istore_n (L' := [some (vR 0 0), some (vI (fn_B_size σ))]) d_O_wipe_7 rfl (by decide) rfl ?_
  refine ev_aload_n d_O_wipe_8 rfl rfl ?_
  refine ev_getR gf_O_10 rfl (by decide) d_O_wipe_9 ?_
  refine ev_callV (as := []) (st := []) (k := 1) (i := 0) g_B_clear ml_O_98 rfl rfl (by decide) (by decide) d_O_wipe_12 rfl rfl (Nat.le_of_ble_eq_true rfl) rfl (Nat.le_of_ble_eq_true rfl) ?_
  refine Ev.mono K ?_
  rintro _ s1 ⟨rfl, K⟩
  show Ev none (d + 5) m_O_wipe 15 [some (vR 0 0), some (vI (fn_B_size σ))] [] s1 post
  refine ev_iload_n d_O_wipe_15 rfl rfl ?_
  exact ev_ret (r := some (vI (fn_B_size σ))) d_O_wipe_16 rfl rfl K
set_option maxRecDepth 4000 in
theorem sg_O_mixSeats_0 {d : Nat} {σ : ST} {a1 : Int64} {post : Option AV → ST → Prop} (K : Ev none (d + 5) m_T_seat 0 [some (vR 7 0), some (vI (63 : Int32)), none, none, none] [] σ (fun r s1 => r = none ∧ (Ev none (d + 6) m_O_mixSeats 25 [some (vR 0 0), none, none, some (vJ (fn_O_mix s1 a1 (Int32.toInt64 (fn_T_minutes s1)))), none, some (vI (0 : Int32)), none] [] s1 post))) : Ev none (d + 6) m_O_mixSeats 0 [some (vR 0 0), some (vJ a1), none, none, none, none, none] [] σ post := by
  refine ev_aload_n d_O_mixSeats_0 rfl rfl ?_
  refine ev_getR gf_O_51 rfl (by decide) d_O_mixSeats_1 ?_
  refine ev_bipush (v := 63) d_O_mixSeats_4 (by decide) ?_
  refine ev_callV (as := [vI (63 : Int32)]) (st := []) (k := 7) (i := 0) g_T_seat ml_O_235 rfl rfl (by decide) (by decide) d_O_mixSeats_6 rfl rfl (Nat.le_of_ble_eq_true rfl) rfl (Nat.le_of_ble_eq_true rfl) ?_
  refine Ev.mono K ?_
  rintro _ s1 ⟨rfl, K⟩
  show Ev none (d + 6) m_O_mixSeats 9 [some (vR 0 0), some (vJ a1), none, none, none, none, none] [] s1 post
  refine ev_lload_n d_O_mixSeats_9 rfl rfl ?_
  refine ev_aload_n d_O_mixSeats_10 rfl rfl ?_
  refine ev_getR gf_O_51 rfl (by decide) d_O_mixSeats_11 ?_
  refine ev_callV (as := []) (st := [vJ a1]) (k := 7) (i := 0) g_T_minutes ml_O_239 rfl rfl (by decide) (by decide) d_O_mixSeats_14 rfl rfl (Nat.le_of_ble_eq_true rfl) rfl (Nat.le_of_ble_eq_true rfl) ?_
  refine f_T_minutes  ?_
  show Ev none (d + 6) m_O_mixSeats 17 [some (vR 0 0), some (vJ a1), none, none, none, none, none] [vI (fn_T_minutes s1), vJ a1] s1 post
  refine ev_i2l d_O_mixSeats_17 ?_
  refine ev_callS (as := [vJ a1, vJ (Int32.toInt64 (fn_T_minutes s1))]) (st := []) g_O_mix ml_O_312 d_O_mixSeats_18 rfl rfl (Nat.le_of_ble_eq_true rfl) rfl (Nat.le_of_ble_eq_true rfl) ?_
  refine f_O_mix  ?_
  show Ev none (d + 6) m_O_mixSeats 21 [some (vR 0 0), some (vJ a1), none, none, none, none, none] [vJ (fn_O_mix s1 a1 (Int32.toInt64 (fn_T_minutes s1)))] s1 post
  refine ev_lstore_n (L' := [some (vR 0 0), some (vJ a1), none, some (vJ (fn_O_mix s1 a1 (Int32.toInt64 (fn_T_minutes s1)))), none, none, none]) d_O_mixSeats_21 rfl (by decide) rfl ?_
  refine ev_iconst (v := 0) d_O_mixSeats_22 (by decide) ?_
  refine ev_istore (L' := [some (vR 0 0), some (vJ a1), none, some (vJ (fn_O_mix s1 a1 (Int32.toInt64 (fn_T_minutes s1)))), none, some (vI (0 : Int32)), none]) d_O_mixSeats_23 (by decide) rfl ?_
  exact Ev.wk (lsub_kp (lsub_sk (lsub_sk (lsub_kp (lsub_sk (lsub_kp (lsub_sk (lsub_nil)))))))) K
set_option maxRecDepth 4000 in
theorem sg_O_mixSeats_25 {d : Nat} {σ : ST} {a3 : Int64} {a5 : Int32} {post : Option AV → ST → Prop} (K : (((6 : Int32) ≤ a5) → (post (some (vJ a3)) σ)) ∧ (¬ ((6 : Int32) ≤ a5) → ((fs_T_partnerOf σ a5) ∧ (Ev none (d + 6) m_O_mixSeats 50 [some (vR 0 0), none, none, some (vJ (fn_O_mix σ a3 (Int32.toInt64 (fn_T_partnerOf σ a5)))), none, some (vI a5), some (vI (0 : Int32))] [] σ post)))) : Ev none (d + 6) m_O_mixSeats 25 [some (vR 0 0), none, none, some (vJ a3), none, some (vI a5), none] [] σ post := by
  refine ev_iload d_O_mixSeats_25 rfl ?_
  refine ev_bipush (v := 6) d_O_mixSeats_27 (by decide) ?_
  refine ev_icmp_ge (tgt := 85) d_O_mixSeats_29 rfl (fun h1 => ?_) (fun h1 => ?_)
  · replace K := K.1 h1
    refine ev_lload_n d_O_mixSeats_85 rfl rfl ?_
    exact ev_ret (r := some (vJ a3)) d_O_mixSeats_86 rfl rfl K
  · replace K := K.2 h1
    refine ev_lload_n d_O_mixSeats_32 rfl rfl ?_
    refine ev_aload_n d_O_mixSeats_33 rfl rfl ?_
    refine ev_getR gf_O_51 rfl (by decide) d_O_mixSeats_34 ?_
    refine ev_iload d_O_mixSeats_37 rfl ?_
    obtain ⟨q2, K⟩ := K
    refine ev_callV (as := [vI a5]) (st := [vJ a3]) (k := 7) (i := 0) g_T_partnerOf ml_O_240 rfl rfl (by decide) (by decide) d_O_mixSeats_39 rfl rfl (Nat.le_of_ble_eq_true rfl) rfl (Nat.le_of_ble_eq_true rfl) ?_
    refine f_T_partnerOf q2 ?_
    show Ev none (d + 6) m_O_mixSeats 42 [some (vR 0 0), none, none, some (vJ a3), none, some (vI a5), none] [vI (fn_T_partnerOf σ a5), vJ a3] σ post
    refine ev_i2l d_O_mixSeats_42 ?_
    refine ev_callS (as := [vJ a3, vJ (Int32.toInt64 (fn_T_partnerOf σ a5))]) (st := []) g_O_mix ml_O_312 d_O_mixSeats_43 rfl rfl (Nat.le_of_ble_eq_true rfl) rfl (Nat.le_of_ble_eq_true rfl) ?_
    refine f_O_mix  ?_
    show Ev none (d + 6) m_O_mixSeats 46 [some (vR 0 0), none, none, some (vJ a3), none, some (vI a5), none] [vJ (fn_O_mix σ a3 (Int32.toInt64 (fn_T_partnerOf σ a5)))] σ post
    refine ev_lstore_n (L' := [some (vR 0 0), none, none, some (vJ (fn_O_mix σ a3 (Int32.toInt64 (fn_T_partnerOf σ a5)))), none, some (vI a5), none]) d_O_mixSeats_46 rfl (by decide) rfl ?_
    refine ev_iconst (v := 0) d_O_mixSeats_47 (by decide) ?_
    refine ev_istore (L' := [some (vR 0 0), none, none, some (vJ (fn_O_mix σ a3 (Int32.toInt64 (fn_T_partnerOf σ a5)))), none, some (vI a5), some (vI (0 : Int32))]) d_O_mixSeats_48 (by decide) rfl ?_
    exact K
set_option maxRecDepth 4000 in
theorem sg_O_mixSeats_50 {d : Nat} {σ : ST} {a3 : Int64} {a5 : Int32} {a6 : Int32} {post : Option AV → ST → Prop} (K : (((3 : Int32) ≤ a6) → (Ev none (d + 6) m_O_mixSeats 25 [some (vR 0 0), none, none, some (vJ a3), none, some (vI (a5 + (1 : Int32))), none] [] σ post)) ∧ (¬ ((3 : Int32) ≤ a6) → (Ev none (d + 5) m_U_fittingPaces 0 [some (vR 8 0), some (vI a5), some (vI a6), none, none] [] σ (fun r s2 => ∃ z3 : Int32, r = some (vI z3) ∧ (Ev none (d + 6) m_O_mixSeats 50 [some (vR 0 0), none, none, some (vJ (fn_O_mix s2 a3 (Int32.toInt64 z3))), none, some (vI a5), some (vI (a6 + (1 : Int32)))] [] s2 post))))) : Ev none (d + 6) m_O_mixSeats 50 [some (vR 0 0), none, none, some (vJ a3), none, some (vI a5), some (vI a6)] [] σ post := by
  refine ev_iload d_O_mixSeats_50 rfl ?_
  refine ev_iconst (v := 3) d_O_mixSeats_52 (by decide) ?_
  refine ev_icmp_ge (tgt := 79) d_O_mixSeats_53 rfl (fun h1 => ?_) (fun h1 => ?_)
  · replace K := K.1 h1
    refine ev_iinc (v := a5 + (1 : Int32)) (L' := [some (vR 0 0), none, none, some (vJ a3), none, some (vI (a5 + (1 : Int32))), some (vI a6)]) d_O_mixSeats_79 rfl (congrArg (a5 + ·) (by decide)) (by decide) rfl ?_
    refine ev_goto (tgt := 25) d_O_mixSeats_82 rfl ?_
    exact Ev.wk (lsub_kp (lsub_sk (lsub_sk (lsub_kp (lsub_sk (lsub_kp (lsub_sk (lsub_nil)))))))) K
  · replace K := K.2 h1
    refine ev_lload_n d_O_mixSeats_56 rfl rfl ?_
    refine ev_aload_n d_O_mixSeats_57 rfl rfl ?_
    refine ev_getR gf_O_58 rfl (by decide) d_O_mixSeats_58 ?_
    refine ev_iload d_O_mixSeats_61 rfl ?_
    refine ev_iload d_O_mixSeats_63 rfl ?_
    refine ev_callV (as := [vI a5, vI a6]) (st := [vJ a3]) (k := 8) (i := 0) g_U_fittingPaces ml_O_247 rfl rfl (by decide) (by decide) d_O_mixSeats_65 rfl rfl (Nat.le_of_ble_eq_true rfl) rfl (Nat.le_of_ble_eq_true rfl) ?_
    refine Ev.mono K ?_
    rintro _ s2 ⟨z3, rfl, K⟩
    show Ev none (d + 6) m_O_mixSeats 68 [some (vR 0 0), none, none, some (vJ a3), none, some (vI a5), some (vI a6)] [vI z3, vJ a3] s2 post
    refine ev_i2l d_O_mixSeats_68 ?_
    refine ev_callS (as := [vJ a3, vJ (Int32.toInt64 z3)]) (st := []) g_O_mix ml_O_312 d_O_mixSeats_69 rfl rfl (Nat.le_of_ble_eq_true rfl) rfl (Nat.le_of_ble_eq_true rfl) ?_
    refine f_O_mix  ?_
    show Ev none (d + 6) m_O_mixSeats 72 [some (vR 0 0), none, none, some (vJ a3), none, some (vI a5), some (vI a6)] [vJ (fn_O_mix s2 a3 (Int32.toInt64 z3))] s2 post
    refine ev_lstore_n (L' := [some (vR 0 0), none, none, some (vJ (fn_O_mix s2 a3 (Int32.toInt64 z3))), none, some (vI a5), some (vI a6)]) d_O_mixSeats_72 rfl (by decide) rfl ?_
    refine ev_iinc (v := a6 + (1 : Int32)) (L' := [some (vR 0 0), none, none, some (vJ (fn_O_mix s2 a3 (Int32.toInt64 z3))), none, some (vI a5), some (vI (a6 + (1 : Int32)))]) d_O_mixSeats_73 rfl (congrArg (a6 + ·) (by decide)) (by decide) rfl ?_
    refine ev_goto (tgt := 50) d_O_mixSeats_76 rfl ?_
    exact K
set_option maxRecDepth 4000 in
theorem sg_O_paces_0 {d : Nat} {σ : ST} {a1 : Int32} {a2 : Int32} {post : Option AV → ST → Prop} (K : (((fp_O_isReader σ a1) ∧ (fp_O_isKind σ a2)) → (Ev none (d + 5) m_U_fittingPaces 0 [some (vR 8 0), some (vI a1), some (vI a2), none, none] [] σ (fun r s3 => ∃ z4 : Int32, r = some (vI z4) ∧ (post (some (vI z4)) s3)))) ∧ (¬ ((fp_O_isReader σ a1) ∧ (fp_O_isKind σ a2)) → (post (some (vI (-2 : Int32))) σ))) : Ev none (d + 6) m_O_paces 0 [some (vR 0 0), some (vI a1), some (vI a2)] [] σ post := by
  refine ev_iload_n d_O_paces_0 rfl rfl ?_
  refine ev_callS (as := [vI a1]) (st := []) g_O_isReader ml_O_121 d_O_paces_1 rfl rfl (Nat.le_of_ble_eq_true rfl) rfl (Nat.le_of_ble_eq_true rfl) ?_
  refine f_O_isReader  ?_
  show Ev none (d + 6) m_O_paces 4 [some (vR 0 0), some (vI a1), some (vI a2)] [vI (bi (fp_O_isReader σ a1))] σ post
  obtain ⟨w1, e2⟩ : ∃ w : Int32, w = bi ((fp_O_isReader σ a1) ∧ (fp_O_isKind σ a2)) := ⟨_, rfl⟩
  have J1 : w1 = 1 → Ev none (d + 6) m_O_paces 17 [some (vR 0 0), some (vI a1), some (vI a2)] [] σ post := by
    intro e21
    replace K := K.1 (bi_1.mp ((e2.symm).trans e21))
    refine ev_aload_n d_O_paces_17 rfl rfl ?_
    refine ev_getR gf_O_58 rfl (by decide) d_O_paces_18 ?_
    refine ev_iload_n d_O_paces_21 rfl rfl ?_
    refine ev_iload_n d_O_paces_22 rfl rfl ?_
    refine ev_callV (as := [vI a1, vI a2]) (st := []) (k := 8) (i := 0) g_U_fittingPaces ml_O_247 rfl rfl (by decide) (by decide) d_O_paces_23 rfl rfl (Nat.le_of_ble_eq_true rfl) rfl (Nat.le_of_ble_eq_true rfl) ?_
    refine Ev.mono K ?_
    rintro _ s3 ⟨z4, rfl, K⟩
    show Ev none (d + 6) m_O_paces 26 [some (vR 0 0), some (vI a1), some (vI a2)] [vI z4] s3 post
    exact ev_ret (r := some (vI z4)) d_O_paces_26 rfl rfl K
  have J0 : w1 = 0 → Ev none (d + 6) m_O_paces 14 [some (vR 0 0), some (vI a1), some (vI a2)] [] σ post := by
    intro e20
    replace K := K.2 (bi_0.mp ((e2.symm).trans e20))
    refine ev_bipush (v := -2) d_O_paces_14 (by decide) ?_
    exact ev_ret (r := some (vI (-2 : Int32))) d_O_paces_16 rfl rfl K
  clear K
  refine ev_ifb_eq (tgt := 14) d_O_paces_4 rfl (fun h5 => ?_) (fun h5 => ?_)
  · rw [b3f h5] at e2
    exact J0 e2
  · rw [b3t h5] at e2
    refine ev_iload_n d_O_paces_7 rfl rfl ?_
    refine ev_callS (as := [vI a2]) (st := []) g_O_isKind ml_O_124 d_O_paces_8 rfl rfl (Nat.le_of_ble_eq_true rfl) rfl (Nat.le_of_ble_eq_true rfl) ?_
    refine f_O_isKind  ?_
    show Ev none (d + 6) m_O_paces 11 [some (vR 0 0), some (vI a1), some (vI a2)] [vI (bi (fp_O_isKind σ a2))] σ post
    refine ev_ifb_ne (tgt := 17) d_O_paces_11 rfl (fun h6 => ?_) (fun h6 => ?_)
    · rw [bi_t h6] at e2
      exact J1 e2
    · rw [bi_f h6] at e2
      exact J0 e2
set_option maxRecDepth 4000 in
theorem sg_O_digest_0 {d : Nat} {σ : ST}  {post : Option AV → ST → Prop} (K : Ev none (d + 7) m_O_digest 6 [some (vR 0 0), some (vJ (17 : Int64)), none, some (vI (0 : Int32))] [] σ post) : Ev none (d + 7) m_O_digest 0 [some (vR 0 0), none, none, none] [] σ post := by
  refine ev_ldc2 d_O_digest_0 cn_O_307 ?_
  refine ev_lstore_n (L' := [some (vR 0 0), some (vJ (17 : Int64)), none, none]) d_O_digest_3 rfl (by decide) rfl ?_
  refine ev_iconst (v := 0) d_O_digest_4 (by decide) ?_
  refine ev_istore_n (L' := [some (vR 0 0), some (vJ (17 : Int64)), none, some (vI (0 : Int32))]) d_O_digest_5 rfl (by decide) rfl ?_
  exact K
set_option maxRecDepth 4000 in
theorem sg_O_digest_6 {d : Nat} {σ : ST} {a1 : Int64} {a3 : Int32} {post : Option AV → ST → Prop} (K : (((7 : Int32) < a3) → (Ev none (d + 6) m_P_search 0 [some (vR 5 0), some (vI (0 : Int32)), some (vI (1 : Int32)), some (vI (σ.1 0 0 9)), some (vI (σ.1 0 0 10)), none] [] σ (fun r s2 => r = none ∧ (Ev none (d + 7) m_O_digest 58 [some (vR 0 0), some (vJ (fn_O_mix σ a1 (Int32.toInt64 (fn_O_fault σ)))), none, some (vI (0 : Int32))] [] s2 post)))) ∧ (¬ ((7 : Int32) < a3) → (Ev none (d + 6) m_O_count 0 [some (vR 0 0), some (vI a3)] [] σ (fun r s3 => ∃ z4 : Int32, r = some (vI z4) ∧ (Ev none (d + 7) m_O_digest 6 [some (vR 0 0), some (vJ (fn_O_mix s3 a1 (Int32.toInt64 z4))), none, some (vI (a3 + (1 : Int32)))] [] s3 post))))) : Ev none (d + 7) m_O_digest 6 [some (vR 0 0), some (vJ a1), none, some (vI a3)] [] σ post := by
  refine ev_iload_n d_O_digest_6 rfl rfl ?_
  refine ev_bipush (v := 7) d_O_digest_7 (by decide) ?_
  refine ev_icmp_gt (tgt := 29) d_O_digest_9 rfl (fun h1 => ?_) (fun h1 => ?_)
  · replace K := K.1 h1
    refine ev_lload_n d_O_digest_29 rfl rfl ?_
    refine ev_aload_n d_O_digest_30 rfl rfl ?_
    refine ev_callV (as := []) (st := [vJ a1]) (k := 0) (i := 0) g_O_fault ml_O_316 rfl rfl (by decide) (by decide) d_O_digest_31 rfl rfl (Nat.le_of_ble_eq_true rfl) rfl (Nat.le_of_ble_eq_true rfl) ?_
    refine f_O_fault  ?_
    show Ev none (d + 7) m_O_digest 34 [some (vR 0 0), some (vJ a1), none, some (vI a3)] [vI (fn_O_fault σ), vJ a1] σ post
    refine ev_i2l d_O_digest_34 ?_
    refine ev_callS (as := [vJ a1, vJ (Int32.toInt64 (fn_O_fault σ))]) (st := []) g_O_mix ml_O_312 d_O_digest_35 rfl rfl (Nat.le_of_ble_eq_true rfl) rfl (Nat.le_of_ble_eq_true rfl) ?_
    refine f_O_mix  ?_
    show Ev none (d + 7) m_O_digest 38 [some (vR 0 0), some (vJ a1), none, some (vI a3)] [vJ (fn_O_mix σ a1 (Int32.toInt64 (fn_O_fault σ)))] σ post
    refine ev_lstore_n (L' := [some (vR 0 0), some (vJ (fn_O_mix σ a1 (Int32.toInt64 (fn_O_fault σ)))), none, some (vI a3)]) d_O_digest_38 rfl (by decide) rfl ?_
    refine ev_aload_n d_O_digest_39 rfl rfl ?_
    refine ev_getR gf_O_37 rfl (by decide) d_O_digest_40 ?_
    refine ev_iconst (v := 0) d_O_digest_43 (by decide) ?_
    refine ev_iconst (v := 1) d_O_digest_44 (by decide) ?_
    refine ev_aload_n d_O_digest_45 rfl rfl ?_
    refine ev_getI gf_O_76 rfl (by decide) d_O_digest_46 ?_
    refine ev_aload_n d_O_digest_49 rfl rfl ?_
    refine ev_getI gf_O_80 rfl (by decide) d_O_digest_50 ?_
    refine ev_callV (as := [vI (0 : Int32), vI (1 : Int32), vI (σ.1 0 0 9), vI (σ.1 0 0 10)]) (st := []) (k := 5) (i := 0) g_P_search ml_O_201 rfl rfl (by decide) (by decide) d_O_digest_53 rfl rfl (Nat.le_of_ble_eq_true rfl) rfl (Nat.le_of_ble_eq_true rfl) ?_
    refine Ev.mono K ?_
    rintro _ s2 ⟨rfl, K⟩
    show Ev none (d + 7) m_O_digest 56 [some (vR 0 0), some (vJ (fn_O_mix σ a1 (Int32.toInt64 (fn_O_fault σ)))), none, some (vI a3)] [] s2 post
    refine ev_iconst (v := 0) d_O_digest_56 (by decide) ?_
    refine ev_istore_n (L' := [some (vR 0 0), some (vJ (fn_O_mix σ a1 (Int32.toInt64 (fn_O_fault σ)))), none, some (vI (0 : Int32))]) d_O_digest_57 rfl (by decide) rfl ?_
    exact K
  · replace K := K.2 h1
    refine ev_lload_n d_O_digest_12 rfl rfl ?_
    refine ev_aload_n d_O_digest_13 rfl rfl ?_
    refine ev_iload_n d_O_digest_14 rfl rfl ?_
    refine ev_callV (as := [vI a3]) (st := [vJ a1]) (k := 0) (i := 0) g_O_count ml_O_309 rfl rfl (by decide) (by decide) d_O_digest_15 rfl rfl (Nat.le_of_ble_eq_true rfl) rfl (Nat.le_of_ble_eq_true rfl) ?_
    refine Ev.mono K ?_
    rintro _ s3 ⟨z4, rfl, K⟩
    show Ev none (d + 7) m_O_digest 18 [some (vR 0 0), some (vJ a1), none, some (vI a3)] [vI z4, vJ a1] s3 post
    refine ev_i2l d_O_digest_18 ?_
    refine ev_callS (as := [vJ a1, vJ (Int32.toInt64 z4)]) (st := []) g_O_mix ml_O_312 d_O_digest_19 rfl rfl (Nat.le_of_ble_eq_true rfl) rfl (Nat.le_of_ble_eq_true rfl) ?_
    refine f_O_mix  ?_
    show Ev none (d + 7) m_O_digest 22 [some (vR 0 0), some (vJ a1), none, some (vI a3)] [vJ (fn_O_mix s3 a1 (Int32.toInt64 z4))] s3 post
    refine ev_lstore_n (L' := [some (vR 0 0), some (vJ (fn_O_mix s3 a1 (Int32.toInt64 z4))), none, some (vI a3)]) d_O_digest_22 rfl (by decide) rfl ?_
    refine ev_iinc (v := a3 + (1 : Int32)) (L' := [some (vR 0 0), some (vJ (fn_O_mix s3 a1 (Int32.toInt64 z4))), none, some (vI (a3 + (1 : Int32)))]) d_O_digest_23 rfl (congrArg (a3 + ·) (by decide)) (by decide) rfl ?_
    refine ev_goto (tgt := 6) d_O_digest_26 rfl ?_
    exact K
set_option maxRecDepth 4000 in
theorem sg_O_digest_58 {d : Nat} {σ : ST} {a1 : Int64} {a3 : Int32} {post : Option AV → ST → Prop} (K : (((fn_B_chapters σ) ≤ a3) → (Ev none (d + 6) m_P_search 0 [some (vR 5 0), some (vI (4 : Int32)), some (vI (5 : Int32)), some (vI (σ.1 0 0 9)), some (vI (σ.1 0 0 10)), none] [] σ (fun r s2 => r = none ∧ (Ev none (d + 6) m_O_mixSeeming 0 [some (vR 0 0), some (vJ (fn_O_mixPlan s2 (fn_O_mixPlan σ a1))), none, none, none] [] s2 (fun r s3 => ∃ z4 : Int64, r = some (vJ z4) ∧ (Ev none (d + 6) m_O_mixSeats 0 [some (vR 0 0), some (vJ z4), none, none, none, none, none] [] s3 (fun r s5 => ∃ z6 : Int64, r = some (vJ z6) ∧ (Ev none (d + 6) m_O_unlike 0 [some (vR 0 0)] [] s5 (fun r s7 => ∃ z8 : Int32, r = some (vI z8) ∧ (Ev none (d + 6) m_O_mixMoods 0 [some (vR 0 0), some (vJ (fn_O_mix s7 z6 (Int32.toInt64 z8))), none, none, none] [] s7 (fun r s9 => ∃ z10 : Int64, r = some (vJ z10) ∧ (post (some (vJ z10)) s9)))))))))))) ∧ (¬ ((fn_B_chapters σ) ≤ a3) → (Ev none (d + 6) m_O_mixChapter 0 [some (vR 0 0), some (vJ a1), none, some (vI a3), none, none, none] [] σ (fun r s11 => ∃ z12 : Int64, r = some (vJ z12) ∧ (Ev none (d + 7) m_O_digest 58 [some (vR 0 0), some (vJ z12), none, some (vI (a3 + (1 : Int32)))] [] s11 post))))) : Ev none (d + 7) m_O_digest 58 [some (vR 0 0), some (vJ a1), none, some (vI a3)] [] σ post := by
  refine ev_iload_n d_O_digest_58 rfl rfl ?_
  refine ev_aload_n d_O_digest_59 rfl rfl ?_
  refine ev_getR gf_O_10 rfl (by decide) d_O_digest_60 ?_
  refine ev_callV (as := []) (st := [vI a3]) (k := 1) (i := 0) g_B_chapters ml_O_297 rfl rfl (by decide) (by decide) d_O_digest_63 rfl rfl (Nat.le_of_ble_eq_true rfl) rfl (Nat.le_of_ble_eq_true rfl) ?_
  refine f_B_chapters  ?_
  show Ev none (d + 7) m_O_digest 66 [some (vR 0 0), some (vJ a1), none, some (vI a3)] [vI (fn_B_chapters σ), vI a3] σ post
  refine ev_icmp_ge (tgt := 82) d_O_digest_66 rfl (fun h1 => ?_) (fun h1 => ?_)
  · replace K := K.1 h1
    refine ev_aload_n d_O_digest_82 rfl rfl ?_
    refine ev_lload_n d_O_digest_83 rfl rfl ?_
    refine ev_callV (as := [vJ a1]) (st := []) (k := 0) (i := 0) g_O_mixPlan ml_O_323 rfl rfl (by decide) (by decide) d_O_digest_84 rfl rfl (Nat.le_of_ble_eq_true rfl) rfl (Nat.le_of_ble_eq_true rfl) ?_
    refine f_O_mixPlan  ?_
    show Ev none (d + 7) m_O_digest 87 [some (vR 0 0), some (vJ a1), none, some (vI a3)] [vJ (fn_O_mixPlan σ a1)] σ post
    refine ev_lstore_n (L' := [some (vR 0 0), some (vJ (fn_O_mixPlan σ a1)), none, some (vI a3)]) d_O_digest_87 rfl (by decide) rfl ?_
    refine ev_aload_n d_O_digest_88 rfl rfl ?_
    refine ev_getR gf_O_37 rfl (by decide) d_O_digest_89 ?_
    refine ev_iconst (v := 4) d_O_digest_92 (by decide) ?_
    refine ev_iconst (v := 5) d_O_digest_93 (by decide) ?_
    refine ev_aload_n d_O_digest_94 rfl rfl ?_
    refine ev_getI gf_O_76 rfl (by decide) d_O_digest_95 ?_
    refine ev_aload_n d_O_digest_98 rfl rfl ?_
    refine ev_getI gf_O_80 rfl (by decide) d_O_digest_99 ?_
    refine ev_callV (as := [vI (4 : Int32), vI (5 : Int32), vI (σ.1 0 0 9), vI (σ.1 0 0 10)]) (st := []) (k := 5) (i := 0) g_P_search ml_O_201 rfl rfl (by decide) (by decide) d_O_digest_102 rfl rfl (Nat.le_of_ble_eq_true rfl) rfl (Nat.le_of_ble_eq_true rfl) ?_
    refine Ev.mono K ?_
    rintro _ s2 ⟨rfl, K⟩
    show Ev none (d + 7) m_O_digest 105 [some (vR 0 0), some (vJ (fn_O_mixPlan σ a1)), none, some (vI a3)] [] s2 post
    refine ev_aload_n d_O_digest_105 rfl rfl ?_
    refine ev_lload_n d_O_digest_106 rfl rfl ?_
    refine ev_callV (as := [vJ (fn_O_mixPlan σ a1)]) (st := []) (k := 0) (i := 0) g_O_mixPlan ml_O_323 rfl rfl (by decide) (by decide) d_O_digest_107 rfl rfl (Nat.le_of_ble_eq_true rfl) rfl (Nat.le_of_ble_eq_true rfl) ?_
    refine f_O_mixPlan  ?_
    show Ev none (d + 7) m_O_digest 110 [some (vR 0 0), some (vJ (fn_O_mixPlan σ a1)), none, some (vI a3)] [vJ (fn_O_mixPlan s2 (fn_O_mixPlan σ a1))] s2 post
    refine ev_lstore_n (L' := [some (vR 0 0), some (vJ (fn_O_mixPlan s2 (fn_O_mixPlan σ a1))), none, some (vI a3)]) d_O_digest_110 rfl (by decide) rfl ?_
    refine ev_aload_n d_O_digest_111 rfl rfl ?_
    refine ev_lload_n d_O_digest_112 rfl rfl ?_
    refine ev_callV (as := [vJ (fn_O_mixPlan s2 (fn_O_mixPlan σ a1))]) (st := []) (k := 0) (i := 0) g_O_mixSeeming ml_O_327 rfl rfl (by decide) (by decide) d_O_digest_113 rfl rfl (Nat.le_of_ble_eq_true rfl) rfl (Nat.le_of_ble_eq_true rfl) ?_
    refine Ev.mono K ?_
    rintro _ s3 ⟨z4, rfl, K⟩
    show Ev none (d + 7) m_O_digest 116 [some (vR 0 0), some (vJ (fn_O_mixPlan s2 (fn_O_mixPlan σ a1))), none, some (vI a3)] [vJ z4] s3 post
    refine ev_lstore_n (L' := [some (vR 0 0), some (vJ z4), none, some (vI a3)]) d_O_digest_116 rfl (by decide) rfl ?_
    refine ev_aload_n d_O_digest_117 rfl rfl ?_
    refine ev_lload_n d_O_digest_118 rfl rfl ?_
    refine ev_callV (as := [vJ z4]) (st := []) (k := 0) (i := 0) g_O_mixSeats ml_O_330 rfl rfl (by decide) (by decide) d_O_digest_119 rfl rfl (Nat.le_of_ble_eq_true rfl) rfl (Nat.le_of_ble_eq_true rfl) ?_
    refine Ev.mono K ?_
    rintro _ s5 ⟨z6, rfl, K⟩
    show Ev none (d + 7) m_O_digest 122 [some (vR 0 0), some (vJ z4), none, some (vI a3)] [vJ z6] s5 post
    refine ev_lstore_n (L' := [some (vR 0 0), some (vJ z6), none, some (vI a3)]) d_O_digest_122 rfl (by decide) rfl ?_
    refine ev_lload_n d_O_digest_123 rfl rfl ?_
    refine ev_aload_n d_O_digest_124 rfl rfl ?_
    refine ev_callV (as := []) (st := [vJ z6]) (k := 0) (i := 0) g_O_unlike ml_O_333 rfl rfl (by decide) (by decide) d_O_digest_125 rfl rfl (Nat.le_of_ble_eq_true rfl) rfl (Nat.le_of_ble_eq_true rfl) ?_
    refine Ev.mono K ?_
    rintro _ s7 ⟨z8, rfl, K⟩
    show Ev none (d + 7) m_O_digest 128 [some (vR 0 0), some (vJ z6), none, some (vI a3)] [vI z8, vJ z6] s7 post
    refine ev_i2l d_O_digest_128 ?_
    refine ev_callS (as := [vJ z6, vJ (Int32.toInt64 z8)]) (st := []) g_O_mix ml_O_312 d_O_digest_129 rfl rfl (Nat.le_of_ble_eq_true rfl) rfl (Nat.le_of_ble_eq_true rfl) ?_
    refine f_O_mix  ?_
    show Ev none (d + 7) m_O_digest 132 [some (vR 0 0), some (vJ z6), none, some (vI a3)] [vJ (fn_O_mix s7 z6 (Int32.toInt64 z8))] s7 post
    refine ev_lstore_n (L' := [some (vR 0 0), some (vJ (fn_O_mix s7 z6 (Int32.toInt64 z8))), none, some (vI a3)]) d_O_digest_132 rfl (by decide) rfl ?_
    refine ev_aload_n d_O_digest_133 rfl rfl ?_
    refine ev_lload_n d_O_digest_134 rfl rfl ?_
    refine ev_callV (as := [vJ (fn_O_mix s7 z6 (Int32.toInt64 z8))]) (st := []) (k := 0) (i := 0) g_O_mixMoods ml_O_336 rfl rfl (by decide) (by decide) d_O_digest_135 rfl rfl (Nat.le_of_ble_eq_true rfl) rfl (Nat.le_of_ble_eq_true rfl) ?_
    refine Ev.mono K ?_
    rintro _ s9 ⟨z10, rfl, K⟩
    show Ev none (d + 7) m_O_digest 138 [some (vR 0 0), some (vJ (fn_O_mix s7 z6 (Int32.toInt64 z8))), none, some (vI a3)] [vJ z10] s9 post
    exact ev_ret (r := some (vJ z10)) d_O_digest_138 rfl rfl K
  · replace K := K.2 h1
    refine ev_aload_n d_O_digest_69 rfl rfl ?_
    refine ev_lload_n d_O_digest_70 rfl rfl ?_
    refine ev_iload_n d_O_digest_71 rfl rfl ?_
    refine ev_callV (as := [vJ a1, vI a3]) (st := []) (k := 0) (i := 0) g_O_mixChapter ml_O_319 rfl rfl (by decide) (by decide) d_O_digest_72 rfl rfl (Nat.le_of_ble_eq_true rfl) rfl (Nat.le_of_ble_eq_true rfl) ?_
    refine Ev.mono K ?_
    rintro _ s11 ⟨z12, rfl, K⟩
    show Ev none (d + 7) m_O_digest 75 [some (vR 0 0), some (vJ a1), none, some (vI a3)] [vJ z12] s11 post
    refine ev_lstore_n (L' := [some (vR 0 0), some (vJ z12), none, some (vI a3)]) d_O_digest_75 rfl (by decide) rfl ?_
    refine ev_iinc (v := a3 + (1 : Int32)) (L' := [some (vR 0 0), some (vJ z12), none, some (vI (a3 + (1 : Int32)))]) d_O_digest_76 rfl (congrArg (a3 + ·) (by decide)) (by decide) rfl ?_
    refine ev_goto (tgt := 58) d_O_digest_79 rfl ?_
    exact K
