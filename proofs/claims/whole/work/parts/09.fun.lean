-- what the segments lean on
theorem bi_1 {p : Prop} [Decidable p] : bi p = 1 ↔ p := by
  unfold bi
  split
  next h => exact ⟨fun _ => h, fun _ => rfl⟩
  next h => exact ⟨fun q => absurd q (by decide), fun q => absurd q h⟩
theorem bi_iff {p q : Prop} [Decidable p] [Decidable q] (h : p ↔ q) : bi p = bi q := by
  unfold bi
  by_cases a : p
  · rw [if_pos a, if_pos (h.mp a)]
  · rw [if_neg a, if_neg (fun z => a (h.mpr z))]
theorem b3t {c p : Prop} [Decidable c] [Decidable p] (h : c) : bi (c ∧ p) = bi p := bi_iff ⟨fun q => q.2, fun q => ⟨h, q⟩⟩
theorem b3f {c p : Prop} [Decidable c] [Decidable p] (h : ¬ c) : bi (c ∧ p) = 0 := bi_f (fun q => h q.1)
theorem b4t {c p : Prop} [Decidable c] [Decidable p] (h : c) : bi (c ∨ p) = 1 := bi_t (Or.inl h)
theorem b4f {c p : Prop} [Decidable c] [Decidable p] (h : ¬ c) : bi (c ∨ p) = bi p := bi_iff ⟨fun q => q.resolve_left h, Or.inr⟩
theorem b5t {c p : Prop} [Decidable c] [Decidable p] (h : c) : bi (¬ c ∧ p) = 0 := bi_f (fun q => q.1 h)
theorem b5f {c p : Prop} [Decidable c] [Decidable p] (h : ¬ c) : bi (¬ c ∧ p) = bi p := bi_iff ⟨fun q => q.2, fun q => ⟨h, q⟩⟩
theorem b6t {c p : Prop} [Decidable c] [Decidable p] (h : c) : bi (¬ c ∨ p) = bi p := bi_iff ⟨fun q => q.resolve_left (fun z => z h), Or.inr⟩
theorem b6f {c p : Prop} [Decidable c] [Decidable p] (h : ¬ c) : bi (¬ c ∨ p) = 1 := bi_t (Or.inl h)
theorem b7t {c p q : Prop} [Decidable c] [Decidable p] [Decidable q] (h : c) : bi ((c ∧ p) ∨ (¬ c ∧ q)) = bi p := bi_iff ⟨fun z => z.elim (fun z => z.2) (fun z => absurd h z.1), fun z => Or.inl ⟨h, z⟩⟩
theorem b7f {c p q : Prop} [Decidable c] [Decidable p] [Decidable q] (h : ¬ c) : bi ((c ∧ p) ∨ (¬ c ∧ q)) = bi q := bi_iff ⟨fun z => z.elim (fun z => absurd z.1 h) (fun z => z.2), fun z => Or.inr ⟨h, z⟩⟩
def lsub : List (Option AV) → List (Option AV) → Prop
  | [], _ => True
  | none :: l, _ :: m => lsub l m
  | some v :: l, o :: m => o = some v ∧ lsub l m
  | _ :: _, [] => False
theorem lsub_nil {m : List (Option AV)} : lsub [] m := trivial
theorem lsub_sk {l m : List (Option AV)} {o : Option AV} (h : lsub l m) : lsub (none :: l) (o :: m) := h
theorem lsub_kp {l m : List (Option AV)} {v : AV} (h : lsub l m) : lsub (some v :: l) (some v :: m) := ⟨rfl, h⟩
theorem lsub_at : ∀ {l m : List (Option AV)} {i : Nat} {v : AV}, lsub l m → l[i]? = some (some v) → m[i]? = some (some v)
  | [], _, _, _, _, h => by simp at h
  | none :: l, o :: m, 0, _, _, h => by cases h
  | none :: l, o :: m, i + 1, _, hs, h => lsub_at (l := l) (m := m) (i := i) hs h
  | some w :: l, o :: m, 0, _, hs, h => by
    obtain ⟨rfl, -⟩ := hs
    exact h
  | some w :: l, o :: m, i + 1, _, hs, h => lsub_at (l := l) (m := m) (i := i) hs.2 h
  | none :: l, [], _, _, hs, _ => hs.elim
  | some w :: l, [], _, _, hs, _ => hs.elim
theorem Ev.wk {X : SX} {d : Nat} {M : MD} {pc : Nat} {L L' : List (Option AV)} {st : List AV} {σ : ST} {post : Option AV → ST → Prop} (h : lsub L' L) (k : Ev X d M pc L' st σ post) : Ev X d M pc L st σ post := by
  intro D ad aC p l e R s m args below meth c cells slots A Q C H locs ls w hl
  exact k.at C w ⟨hl.1, hl.2.1, fun i v hv => hl.2.2 i v (lsub_at h hv)⟩
def fn_J_bitCount (σ : ST) (a0 : Int32) : Int32 := (((((((a0 - ((ius a0 (1 : Int32)) &&& (1431655765 : Int32))) &&& (858993459 : Int32)) + ((ius (a0 - ((ius a0 (1 : Int32)) &&& (1431655765 : Int32))) (2 : Int32)) &&& (858993459 : Int32))) + (ius (((a0 - ((ius a0 (1 : Int32)) &&& (1431655765 : Int32))) &&& (858993459 : Int32)) + ((ius (a0 - ((ius a0 (1 : Int32)) &&& (1431655765 : Int32))) (2 : Int32)) &&& (858993459 : Int32))) (4 : Int32))) &&& (252645135 : Int32)) + (ius (((((a0 - ((ius a0 (1 : Int32)) &&& (1431655765 : Int32))) &&& (858993459 : Int32)) + ((ius (a0 - ((ius a0 (1 : Int32)) &&& (1431655765 : Int32))) (2 : Int32)) &&& (858993459 : Int32))) + (ius (((a0 - ((ius a0 (1 : Int32)) &&& (1431655765 : Int32))) &&& (858993459 : Int32)) + ((ius (a0 - ((ius a0 (1 : Int32)) &&& (1431655765 : Int32))) (2 : Int32)) &&& (858993459 : Int32))) (4 : Int32))) &&& (252645135 : Int32)) (8 : Int32))) + (ius ((((((a0 - ((ius a0 (1 : Int32)) &&& (1431655765 : Int32))) &&& (858993459 : Int32)) + ((ius (a0 - ((ius a0 (1 : Int32)) &&& (1431655765 : Int32))) (2 : Int32)) &&& (858993459 : Int32))) + (ius (((a0 - ((ius a0 (1 : Int32)) &&& (1431655765 : Int32))) &&& (858993459 : Int32)) + ((ius (a0 - ((ius a0 (1 : Int32)) &&& (1431655765 : Int32))) (2 : Int32)) &&& (858993459 : Int32))) (4 : Int32))) &&& (252645135 : Int32)) + (ius (((((a0 - ((ius a0 (1 : Int32)) &&& (1431655765 : Int32))) &&& (858993459 : Int32)) + ((ius (a0 - ((ius a0 (1 : Int32)) &&& (1431655765 : Int32))) (2 : Int32)) &&& (858993459 : Int32))) + (ius (((a0 - ((ius a0 (1 : Int32)) &&& (1431655765 : Int32))) &&& (858993459 : Int32)) + ((ius (a0 - ((ius a0 (1 : Int32)) &&& (1431655765 : Int32))) (2 : Int32)) &&& (858993459 : Int32))) (4 : Int32))) &&& (252645135 : Int32)) (8 : Int32))) (16 : Int32))) &&& (63 : Int32)
theorem f_J_bitCount {d : Nat} {σ : ST} {a0 : Int32} {post : Option AV → ST → Prop} (K : post (some (vI (fn_J_bitCount σ a0))) σ) : Ev none d m_J_bitCount 0 [some (vI a0)] [] σ post := by
  unfold fn_J_bitCount at K
  refine ev_iload_n d_J_bitCount_0 rfl rfl ?_
  refine ev_iload_n d_J_bitCount_1 rfl rfl ?_
  refine ev_iconst (v := 1) d_J_bitCount_2 (by decide) ?_
  refine ev_iushr d_J_bitCount_3 ?_
  refine ev_ldcw d_J_bitCount_4 cn_J_265 ?_
  refine ev_iand d_J_bitCount_7 ?_
  refine ev_isub d_J_bitCount_8 ?_
  refine ev_istore_n (L' := [some (vI (a0 - ((ius a0 (1 : Int32)) &&& (1431655765 : Int32))))]) d_J_bitCount_9 rfl (by decide) rfl ?_
  refine ev_iload_n d_J_bitCount_10 rfl rfl ?_
  refine ev_ldcw d_J_bitCount_11 cn_J_266 ?_
  refine ev_iand d_J_bitCount_14 ?_
  refine ev_iload_n d_J_bitCount_15 rfl rfl ?_
  refine ev_iconst (v := 2) d_J_bitCount_16 (by decide) ?_
  refine ev_iushr d_J_bitCount_17 ?_
  refine ev_ldcw d_J_bitCount_18 cn_J_266 ?_
  refine ev_iand d_J_bitCount_21 ?_
  refine ev_iadd d_J_bitCount_22 ?_
  refine ev_istore_n (L' := [some (vI (((a0 - ((ius a0 (1 : Int32)) &&& (1431655765 : Int32))) &&& (858993459 : Int32)) + ((ius (a0 - ((ius a0 (1 : Int32)) &&& (1431655765 : Int32))) (2 : Int32)) &&& (858993459 : Int32))))]) d_J_bitCount_23 rfl (by decide) rfl ?_
  refine ev_iload_n d_J_bitCount_24 rfl rfl ?_
  refine ev_iload_n d_J_bitCount_25 rfl rfl ?_
  refine ev_iconst (v := 4) d_J_bitCount_26 (by decide) ?_
  refine ev_iushr d_J_bitCount_27 ?_
  refine ev_iadd d_J_bitCount_28 ?_
  refine ev_ldcw d_J_bitCount_29 cn_J_267 ?_
  refine ev_iand d_J_bitCount_32 ?_
  refine ev_istore_n (L' := [some (vI (((((a0 - ((ius a0 (1 : Int32)) &&& (1431655765 : Int32))) &&& (858993459 : Int32)) + ((ius (a0 - ((ius a0 (1 : Int32)) &&& (1431655765 : Int32))) (2 : Int32)) &&& (858993459 : Int32))) + (ius (((a0 - ((ius a0 (1 : Int32)) &&& (1431655765 : Int32))) &&& (858993459 : Int32)) + ((ius (a0 - ((ius a0 (1 : Int32)) &&& (1431655765 : Int32))) (2 : Int32)) &&& (858993459 : Int32))) (4 : Int32))) &&& (252645135 : Int32)))]) d_J_bitCount_33 rfl (by decide) rfl ?_
  refine ev_iload_n d_J_bitCount_34 rfl rfl ?_
  refine ev_iload_n d_J_bitCount_35 rfl rfl ?_
  refine ev_bipush (v := 8) d_J_bitCount_36 (by decide) ?_
  refine ev_iushr d_J_bitCount_38 ?_
  refine ev_iadd d_J_bitCount_39 ?_
  refine ev_istore_n (L' := [some (vI ((((((a0 - ((ius a0 (1 : Int32)) &&& (1431655765 : Int32))) &&& (858993459 : Int32)) + ((ius (a0 - ((ius a0 (1 : Int32)) &&& (1431655765 : Int32))) (2 : Int32)) &&& (858993459 : Int32))) + (ius (((a0 - ((ius a0 (1 : Int32)) &&& (1431655765 : Int32))) &&& (858993459 : Int32)) + ((ius (a0 - ((ius a0 (1 : Int32)) &&& (1431655765 : Int32))) (2 : Int32)) &&& (858993459 : Int32))) (4 : Int32))) &&& (252645135 : Int32)) + (ius (((((a0 - ((ius a0 (1 : Int32)) &&& (1431655765 : Int32))) &&& (858993459 : Int32)) + ((ius (a0 - ((ius a0 (1 : Int32)) &&& (1431655765 : Int32))) (2 : Int32)) &&& (858993459 : Int32))) + (ius (((a0 - ((ius a0 (1 : Int32)) &&& (1431655765 : Int32))) &&& (858993459 : Int32)) + ((ius (a0 - ((ius a0 (1 : Int32)) &&& (1431655765 : Int32))) (2 : Int32)) &&& (858993459 : Int32))) (4 : Int32))) &&& (252645135 : Int32)) (8 : Int32))))]) d_J_bitCount_40 rfl (by decide) rfl ?_
  refine ev_iload_n d_J_bitCount_41 rfl rfl ?_
  refine ev_iload_n d_J_bitCount_42 rfl rfl ?_
  refine ev_bipush (v := 16) d_J_bitCount_43 (by decide) ?_
  refine ev_iushr d_J_bitCount_45 ?_
  refine ev_iadd d_J_bitCount_46 ?_
  refine ev_istore_n (L' := [some (vI (((((((a0 - ((ius a0 (1 : Int32)) &&& (1431655765 : Int32))) &&& (858993459 : Int32)) + ((ius (a0 - ((ius a0 (1 : Int32)) &&& (1431655765 : Int32))) (2 : Int32)) &&& (858993459 : Int32))) + (ius (((a0 - ((ius a0 (1 : Int32)) &&& (1431655765 : Int32))) &&& (858993459 : Int32)) + ((ius (a0 - ((ius a0 (1 : Int32)) &&& (1431655765 : Int32))) (2 : Int32)) &&& (858993459 : Int32))) (4 : Int32))) &&& (252645135 : Int32)) + (ius (((((a0 - ((ius a0 (1 : Int32)) &&& (1431655765 : Int32))) &&& (858993459 : Int32)) + ((ius (a0 - ((ius a0 (1 : Int32)) &&& (1431655765 : Int32))) (2 : Int32)) &&& (858993459 : Int32))) + (ius (((a0 - ((ius a0 (1 : Int32)) &&& (1431655765 : Int32))) &&& (858993459 : Int32)) + ((ius (a0 - ((ius a0 (1 : Int32)) &&& (1431655765 : Int32))) (2 : Int32)) &&& (858993459 : Int32))) (4 : Int32))) &&& (252645135 : Int32)) (8 : Int32))) + (ius ((((((a0 - ((ius a0 (1 : Int32)) &&& (1431655765 : Int32))) &&& (858993459 : Int32)) + ((ius (a0 - ((ius a0 (1 : Int32)) &&& (1431655765 : Int32))) (2 : Int32)) &&& (858993459 : Int32))) + (ius (((a0 - ((ius a0 (1 : Int32)) &&& (1431655765 : Int32))) &&& (858993459 : Int32)) + ((ius (a0 - ((ius a0 (1 : Int32)) &&& (1431655765 : Int32))) (2 : Int32)) &&& (858993459 : Int32))) (4 : Int32))) &&& (252645135 : Int32)) + (ius (((((a0 - ((ius a0 (1 : Int32)) &&& (1431655765 : Int32))) &&& (858993459 : Int32)) + ((ius (a0 - ((ius a0 (1 : Int32)) &&& (1431655765 : Int32))) (2 : Int32)) &&& (858993459 : Int32))) + (ius (((a0 - ((ius a0 (1 : Int32)) &&& (1431655765 : Int32))) &&& (858993459 : Int32)) + ((ius (a0 - ((ius a0 (1 : Int32)) &&& (1431655765 : Int32))) (2 : Int32)) &&& (858993459 : Int32))) (4 : Int32))) &&& (252645135 : Int32)) (8 : Int32))) (16 : Int32))))]) d_J_bitCount_47 rfl (by decide) rfl ?_
  refine ev_iload_n d_J_bitCount_48 rfl rfl ?_
  refine ev_bipush (v := 63) d_J_bitCount_49 (by decide) ?_
  refine ev_iand d_J_bitCount_51 ?_
  exact ev_ret (r := some (vI ((((((((a0 - ((ius a0 (1 : Int32)) &&& (1431655765 : Int32))) &&& (858993459 : Int32)) + ((ius (a0 - ((ius a0 (1 : Int32)) &&& (1431655765 : Int32))) (2 : Int32)) &&& (858993459 : Int32))) + (ius (((a0 - ((ius a0 (1 : Int32)) &&& (1431655765 : Int32))) &&& (858993459 : Int32)) + ((ius (a0 - ((ius a0 (1 : Int32)) &&& (1431655765 : Int32))) (2 : Int32)) &&& (858993459 : Int32))) (4 : Int32))) &&& (252645135 : Int32)) + (ius (((((a0 - ((ius a0 (1 : Int32)) &&& (1431655765 : Int32))) &&& (858993459 : Int32)) + ((ius (a0 - ((ius a0 (1 : Int32)) &&& (1431655765 : Int32))) (2 : Int32)) &&& (858993459 : Int32))) + (ius (((a0 - ((ius a0 (1 : Int32)) &&& (1431655765 : Int32))) &&& (858993459 : Int32)) + ((ius (a0 - ((ius a0 (1 : Int32)) &&& (1431655765 : Int32))) (2 : Int32)) &&& (858993459 : Int32))) (4 : Int32))) &&& (252645135 : Int32)) (8 : Int32))) + (ius ((((((a0 - ((ius a0 (1 : Int32)) &&& (1431655765 : Int32))) &&& (858993459 : Int32)) + ((ius (a0 - ((ius a0 (1 : Int32)) &&& (1431655765 : Int32))) (2 : Int32)) &&& (858993459 : Int32))) + (ius (((a0 - ((ius a0 (1 : Int32)) &&& (1431655765 : Int32))) &&& (858993459 : Int32)) + ((ius (a0 - ((ius a0 (1 : Int32)) &&& (1431655765 : Int32))) (2 : Int32)) &&& (858993459 : Int32))) (4 : Int32))) &&& (252645135 : Int32)) + (ius (((((a0 - ((ius a0 (1 : Int32)) &&& (1431655765 : Int32))) &&& (858993459 : Int32)) + ((ius (a0 - ((ius a0 (1 : Int32)) &&& (1431655765 : Int32))) (2 : Int32)) &&& (858993459 : Int32))) + (ius (((a0 - ((ius a0 (1 : Int32)) &&& (1431655765 : Int32))) &&& (858993459 : Int32)) + ((ius (a0 - ((ius a0 (1 : Int32)) &&& (1431655765 : Int32))) (2 : Int32)) &&& (858993459 : Int32))) (4 : Int32))) &&& (252645135 : Int32)) (8 : Int32))) (16 : Int32))) &&& (63 : Int32)))) d_J_bitCount_52 rfl rfl K
def fn_O_asNumber (σ : ST) (a0 : Int32) : Int32 := if a0 = 0 then (0 : Int32) else (1 : Int32)
theorem f_O_asNumber {d : Nat} {σ : ST} {a0 : Int32} {post : Option AV → ST → Prop} (K : post (some (vI (fn_O_asNumber σ a0))) σ) : Ev none d m_O_asNumber 0 [some (vI a0)] [] σ post := by
  unfold fn_O_asNumber at K
  refine ev_iload_n d_O_asNumber_0 rfl rfl ?_
  refine ev_if_eq (tgt := 8) d_O_asNumber_1 rfl (fun h1 => ?_) (fun h1 => ?_)
  · rw [if_pos h1] at K
    refine ev_iconst (v := 0) d_O_asNumber_8 (by decide) ?_
    exact ev_ret (r := some (vI (0 : Int32))) d_O_asNumber_9 rfl rfl K
  · rw [if_neg h1] at K
    refine ev_iconst (v := 1) d_O_asNumber_4 (by decide) ?_
    refine ev_goto (tgt := 9) d_O_asNumber_5 rfl ?_
    exact ev_ret (r := some (vI (1 : Int32))) d_O_asNumber_9 rfl rfl K
abbrev fp_O_holds (σ : ST) (a0 : Int32) (a1 : Int32) : Prop := ((isr a0 a1) &&& (1 : Int32)) = (1 : Int32)
theorem f_O_holds {d : Nat} {σ : ST} {a0 : Int32} {a1 : Int32} {post : Option AV → ST → Prop} (K : post (some (vI (bi (fp_O_holds σ a0 a1)))) σ) : Ev none d m_O_holds 0 [some (vI a0), some (vI a1)] [] σ post := by
  unfold fp_O_holds at K
  refine ev_iload_n d_O_holds_0 rfl rfl ?_
  refine ev_iload_n d_O_holds_1 rfl rfl ?_
  refine ev_ishr d_O_holds_2 ?_
  refine ev_iconst (v := 1) d_O_holds_3 (by decide) ?_
  refine ev_iand d_O_holds_4 ?_
  refine ev_iconst (v := 1) d_O_holds_5 (by decide) ?_
  refine ev_icmp_ne (tgt := 13) d_O_holds_6 rfl (fun h1 => ?_) (fun h1 => ?_)
  · rw [bi_f h1] at K
    refine ev_iconst (v := 0) d_O_holds_13 (by decide) ?_
    exact ev_ret (r := some (vI (0 : Int32))) d_O_holds_14 rfl ⟨rfl, by decide⟩ K
  · rw [bi_t h1] at K
    refine ev_iconst (v := 1) d_O_holds_9 (by decide) ?_
    refine ev_goto (tgt := 14) d_O_holds_10 rfl ?_
    exact ev_ret (r := some (vI (1 : Int32))) d_O_holds_14 rfl ⟨rfl, by decide⟩ K
def fn_O_mix (σ : ST) (a0 : Int64) (a2 : Int64) : Int64 := ((31 : Int64) * a0) + a2
theorem f_O_mix {d : Nat} {σ : ST} {a0 : Int64} {a2 : Int64} {post : Option AV → ST → Prop} (K : post (some (vJ (fn_O_mix σ a0 a2))) σ) : Ev none d m_O_mix 0 [some (vJ a0), none, some (vJ a2), none] [] σ post := by
  unfold fn_O_mix at K
  refine ev_ldc2 d_O_mix_0 cn_O_339 ?_
  refine ev_lload_n d_O_mix_3 rfl rfl ?_
  refine ev_lmul d_O_mix_4 ?_
  refine ev_lload_n d_O_mix_5 rfl rfl ?_
  refine ev_ladd d_O_mix_6 ?_
  exact ev_ret (r := some (vJ (((31 : Int64) * a0) + a2))) d_O_mix_7 rfl rfl K
def fn_O_mostOfTrait (σ : ST) (a0 : Int32) : Int32 := if a0 = 0 then (99 : Int32) else (if a0 = (1 : Int32) then (9 : Int32) else (4 : Int32))
theorem f_O_mostOfTrait {d : Nat} {σ : ST} {a0 : Int32} {post : Option AV → ST → Prop} (K : post (some (vI (fn_O_mostOfTrait σ a0))) σ) : Ev none d m_O_mostOfTrait 0 [some (vI a0)] [] σ post := by
  unfold fn_O_mostOfTrait at K
  refine ev_iload_n d_O_mostOfTrait_0 rfl rfl ?_
  refine ev_if_ne (tgt := 7) d_O_mostOfTrait_1 rfl (fun h1 => ?_) (fun h1 => ?_)
  · rw [if_neg h1] at K
    refine ev_iload_n d_O_mostOfTrait_7 rfl rfl ?_
    refine ev_iconst (v := 1) d_O_mostOfTrait_8 (by decide) ?_
    refine ev_icmp_ne (tgt := 17) d_O_mostOfTrait_9 rfl (fun h2 => ?_) (fun h2 => ?_)
    · rw [if_neg h2] at K
      refine ev_iconst (v := 4) d_O_mostOfTrait_17 (by decide) ?_
      exact ev_ret (r := some (vI (4 : Int32))) d_O_mostOfTrait_18 rfl rfl K
    · rw [if_pos h2] at K
      refine ev_bipush (v := 9) d_O_mostOfTrait_12 (by decide) ?_
      refine ev_goto (tgt := 18) d_O_mostOfTrait_14 rfl ?_
      exact ev_ret (r := some (vI (9 : Int32))) d_O_mostOfTrait_18 rfl rfl K
  · rw [if_pos h1] at K
    refine ev_bipush (v := 99) d_O_mostOfTrait_4 (by decide) ?_
    exact ev_ret (r := some (vI (99 : Int32))) d_O_mostOfTrait_6 rfl rfl K
def fn_O_refusedLong (σ : ST) (a0 : Int32) : Int64 := (-9223372036854775808 : Int64) - (Int32.toInt64 a0)
theorem f_O_refusedLong {d : Nat} {σ : ST} {a0 : Int32} {post : Option AV → ST → Prop} (K : post (some (vJ (fn_O_refusedLong σ a0))) σ) : Ev none d m_O_refusedLong 0 [some (vI a0)] [] σ post := by
  unfold fn_O_refusedLong at K
  refine ev_ldc2 d_O_refusedLong_0 cn_O_346 ?_
  refine ev_iload_n d_O_refusedLong_3 rfl rfl ?_
  refine ev_i2l d_O_refusedLong_4 ?_
  refine ev_lsub d_O_refusedLong_5 ?_
  exact ev_ret (r := some (vJ ((-9223372036854775808 : Int64) - (Int32.toInt64 a0)))) d_O_refusedLong_6 rfl rfl K
abbrev fp_O_within (σ : ST) (a0 : Int32) (a1 : Int32) (a2 : Int32) : Prop := ¬ (a0 < a1) ∧ (¬ (a2 < a0))
theorem f_O_within {d : Nat} {σ : ST} {a0 : Int32} {a1 : Int32} {a2 : Int32} {post : Option AV → ST → Prop} (K : post (some (vI (bi (fp_O_within σ a0 a1 a2)))) σ) : Ev none d m_O_within 0 [some (vI a0), some (vI a1), some (vI a2)] [] σ post := by
  unfold fp_O_within at K
  refine ev_iload_n d_O_within_0 rfl rfl ?_
  refine ev_iload_n d_O_within_1 rfl rfl ?_
  refine ev_icmp_lt (tgt := 14) d_O_within_2 rfl (fun h1 => ?_) (fun h1 => ?_)
  · rw [b5t h1] at K
    refine ev_iconst (v := 0) d_O_within_14 (by decide) ?_
    exact ev_ret (r := some (vI (0 : Int32))) d_O_within_15 rfl ⟨rfl, by decide⟩ K
  · rw [b5f h1] at K
    refine ev_iload_n d_O_within_5 rfl rfl ?_
    refine ev_iload_n d_O_within_6 rfl rfl ?_
    refine ev_icmp_gt (tgt := 14) d_O_within_7 rfl (fun h2 => ?_) (fun h2 => ?_)
    · rw [bi_f (not_not_intro h2)] at K
      refine ev_iconst (v := 0) d_O_within_14 (by decide) ?_
      exact ev_ret (r := some (vI (0 : Int32))) d_O_within_15 rfl ⟨rfl, by decide⟩ K
    · rw [bi_t h2] at K
      refine ev_iconst (v := 1) d_O_within_10 (by decide) ?_
      refine ev_goto (tgt := 15) d_O_within_11 rfl ?_
      exact ev_ret (r := some (vI (1 : Int32))) d_O_within_15 rfl ⟨rfl, by decide⟩ K
def fn_B_chapters (σ : ST)  : Int32 := σ.1 1 0 4
theorem f_B_chapters {d : Nat} {σ : ST}  {post : Option AV → ST → Prop} (K : post (some (vI (fn_B_chapters σ))) σ) : Ev none d m_B_chapters 0 [some (vR 1 0)] [] σ post := by
  unfold fn_B_chapters at K
  refine ev_aload_n d_B_chapters_0 rfl rfl ?_
  refine ev_getI gf_B_25 rfl (by decide) d_B_chapters_1 ?_
  exact ev_ret (r := some (vI (σ.1 1 0 4))) d_B_chapters_4 rfl rfl K
def fn_B_faultPlace (σ : ST)  : Int32 := σ.1 1 0 5
theorem f_B_faultPlace {d : Nat} {σ : ST}  {post : Option AV → ST → Prop} (K : post (some (vI (fn_B_faultPlace σ))) σ) : Ev none d m_B_faultPlace 0 [some (vR 1 0)] [] σ post := by
  unfold fn_B_faultPlace at K
  refine ev_aload_n d_B_faultPlace_0 rfl rfl ?_
  refine ev_getI gf_B_28 rfl (by decide) d_B_faultPlace_1 ?_
  exact ev_ret (r := some (vI (σ.1 1 0 5))) d_B_faultPlace_4 rfl rfl K
def fn_B_figureAt (σ : ST) (a1 : Int32) : Int32 := if (σ.1 12 0 (a1.toNatClampNeg)) < (48 : Int32) then (-1 : Int32) else (if (57 : Int32) < (σ.1 12 0 (a1.toNatClampNeg)) then (-1 : Int32) else ((σ.1 12 0 (a1.toNatClampNeg)) - (48 : Int32)))
def fs_B_figureAt (σ : ST) (a1 : Int32) : Prop := vp_in a1 60
theorem f_B_figureAt {d : Nat} {σ : ST} {a1 : Int32} {post : Option AV → ST → Prop} (KS : fs_B_figureAt σ a1) (K : post (some (vI (fn_B_figureAt σ a1))) σ) : Ev none d m_B_figureAt 0 [some (vR 1 0), some (vI a1), none] [] σ post := by
  unfold fn_B_figureAt at K
  unfold fs_B_figureAt at KS
  have q1 := KS
  refine ev_aload_n d_B_figureAt_0 rfl rfl ?_
  refine ev_getR gf_B_11 rfl (by decide) d_B_figureAt_1 ?_
  refine ev_iload_n d_B_figureAt_4 rfl rfl ?_
  refine ev_iald rfl (by decide) (by decide) q1 d_B_figureAt_5 ?_
  refine ev_istore_n (L' := [some (vR 1 0), some (vI a1), some (vI (σ.1 12 0 (a1.toNatClampNeg)))]) d_B_figureAt_6 rfl (by decide) rfl ?_
  refine ev_iload_n d_B_figureAt_7 rfl rfl ?_
  refine ev_bipush (v := 48) d_B_figureAt_8 (by decide) ?_
  refine ev_icmp_lt (tgt := 26) d_B_figureAt_10 rfl (fun h2 => ?_) (fun h2 => ?_)
  · rw [if_pos h2] at K
    refine ev_iconst (v := -1) d_B_figureAt_26 (by decide) ?_
    exact ev_ret (r := some (vI (-1 : Int32))) d_B_figureAt_27 rfl rfl K
  · rw [if_neg h2] at K
    refine ev_iload_n d_B_figureAt_13 rfl rfl ?_
    refine ev_bipush (v := 57) d_B_figureAt_14 (by decide) ?_
    refine ev_icmp_gt (tgt := 26) d_B_figureAt_16 rfl (fun h3 => ?_) (fun h3 => ?_)
    · rw [if_pos h3] at K
      refine ev_iconst (v := -1) d_B_figureAt_26 (by decide) ?_
      exact ev_ret (r := some (vI (-1 : Int32))) d_B_figureAt_27 rfl rfl K
    · rw [if_neg h3] at K
      refine ev_iload_n d_B_figureAt_19 rfl rfl ?_
      refine ev_bipush (v := 48) d_B_figureAt_20 (by decide) ?_
      refine ev_isub d_B_figureAt_22 ?_
      refine ev_goto (tgt := 27) d_B_figureAt_23 rfl ?_
      exact ev_ret (r := some (vI ((σ.1 12 0 (a1.toNatClampNeg)) - (48 : Int32)))) d_B_figureAt_27 rfl rfl K
def fn_B_kindAt (σ : ST) (a1 : Int32) : Int32 := if (σ.1 12 0 (a1.toNatClampNeg)) = 100 then (2 : Int32) else (if (σ.1 12 0 (a1.toNatClampNeg)) = 112 then (0 : Int32) else (if (σ.1 12 0 (a1.toNatClampNeg)) = 118 then (1 : Int32) else (-1 : Int32)))
def fs_B_kindAt (σ : ST) (a1 : Int32) : Prop := vp_in a1 60
theorem f_B_kindAt {d : Nat} {σ : ST} {a1 : Int32} {post : Option AV → ST → Prop} (KS : fs_B_kindAt σ a1) (K : post (some (vI (fn_B_kindAt σ a1))) σ) : Ev none d m_B_kindAt 0 [some (vR 1 0), some (vI a1)] [] σ post := by
  unfold fn_B_kindAt at K
  unfold fs_B_kindAt at KS
  have q1 := KS
  refine ev_aload_n d_B_kindAt_0 rfl rfl ?_
  refine ev_getR gf_B_11 rfl (by decide) d_B_kindAt_1 ?_
  refine ev_iload_n d_B_kindAt_4 rfl rfl ?_
  refine ev_iald rfl (by decide) (by decide) q1 d_B_kindAt_5 ?_
  by_cases h2 : (σ.1 12 0 (a1.toNatClampNeg)) = 100
  · rw [if_pos h2] at K
    refine ev_lookup (off := 38) (tgt := 44) d_B_kindAt_6 (by decide) (by rw [h2]; decide) rfl ?_
    refine ev_iconst (v := 2) d_B_kindAt_44 (by decide) ?_
    exact ev_ret (r := some (vI (2 : Int32))) d_B_kindAt_45 rfl rfl K
  · rw [if_neg h2] at K
    by_cases h3 : (σ.1 12 0 (a1.toNatClampNeg)) = 112
    · rw [if_pos h3] at K
      refine ev_lookup (off := 34) (tgt := 40) d_B_kindAt_6 (by decide) (by rw [h3]; decide) rfl ?_
      refine ev_iconst (v := 0) d_B_kindAt_40 (by decide) ?_
      exact ev_ret (r := some (vI (0 : Int32))) d_B_kindAt_41 rfl rfl K
    · rw [if_neg h3] at K
      by_cases h4 : (σ.1 12 0 (a1.toNatClampNeg)) = 118
      · rw [if_pos h4] at K
        refine ev_lookup (off := 36) (tgt := 42) d_B_kindAt_6 (by decide) (by rw [h4]; decide) rfl ?_
        refine ev_iconst (v := 1) d_B_kindAt_42 (by decide) ?_
        exact ev_ret (r := some (vI (1 : Int32))) d_B_kindAt_43 rfl rfl K
      · rw [if_neg h4] at K
        refine ev_lookup (off := 40) (tgt := 46) d_B_kindAt_6 (by decide) (by show Op.lookupswitch.offset [(100, 38), (112, 34), (118, 36)] 40 _ = _; rw [lv_osw (a := 100) h2 (by decide), lv_osw (a := 112) h3 (by decide), lv_osw (a := 118) h4 (by decide)]; rfl) rfl ?_
        refine ev_iconst (v := -1) d_B_kindAt_46 (by decide) ?_
        exact ev_ret (r := some (vI (-1 : Int32))) d_B_kindAt_47 rfl rfl K
def fn_B_kindOf (σ : ST) (a1 : Int32) : Int32 := σ.1 13 0 (a1.toNatClampNeg)
def fs_B_kindOf (σ : ST) (a1 : Int32) : Prop := vp_in a1 8
theorem f_B_kindOf {d : Nat} {σ : ST} {a1 : Int32} {post : Option AV → ST → Prop} (KS : fs_B_kindOf σ a1) (K : post (some (vI (fn_B_kindOf σ a1))) σ) : Ev none d m_B_kindOf 0 [some (vR 1 0), some (vI a1)] [] σ post := by
  unfold fn_B_kindOf at K
  unfold fs_B_kindOf at KS
  have q1 := KS
  refine ev_aload_n d_B_kindOf_0 rfl rfl ?_
  refine ev_getR gf_B_15 rfl (by decide) d_B_kindOf_1 ?_
  refine ev_iload_n d_B_kindOf_4 rfl rfl ?_
  refine ev_iald rfl (by decide) (by decide) q1 d_B_kindOf_5 ?_
  exact ev_ret (r := some (vI (σ.1 13 0 (a1.toNatClampNeg)))) d_B_kindOf_6 rfl rfl K
def fn_B_linesOf (σ : ST) (a1 : Int32) : Int32 := σ.1 14 0 (a1.toNatClampNeg)
def fs_B_linesOf (σ : ST) (a1 : Int32) : Prop := vp_in a1 8
theorem f_B_linesOf {d : Nat} {σ : ST} {a1 : Int32} {post : Option AV → ST → Prop} (KS : fs_B_linesOf σ a1) (K : post (some (vI (fn_B_linesOf σ a1))) σ) : Ev none d m_B_linesOf 0 [some (vR 1 0), some (vI a1)] [] σ post := by
  unfold fn_B_linesOf at K
  unfold fs_B_linesOf at KS
  have q1 := KS
  refine ev_aload_n d_B_linesOf_0 rfl rfl ?_
  refine ev_getR gf_B_18 rfl (by decide) d_B_linesOf_1 ?_
  refine ev_iload_n d_B_linesOf_4 rfl rfl ?_
  refine ev_iald rfl (by decide) (by decide) q1 d_B_linesOf_5 ?_
  exact ev_ret (r := some (vI (σ.1 14 0 (a1.toNatClampNeg)))) d_B_linesOf_6 rfl rfl K
def fn_B_size (σ : ST)  : Int32 := σ.1 1 0 3
theorem f_B_size {d : Nat} {σ : ST}  {post : Option AV → ST → Prop} (K : post (some (vI (fn_B_size σ))) σ) : Ev none d m_B_size 0 [some (vR 1 0)] [] σ post := by
  unfold fn_B_size at K
  refine ev_aload_n d_B_size_0 rfl rfl ?_
  refine ev_getI gf_B_21 rfl (by decide) d_B_size_1 ?_
  exact ev_ret (r := some (vI (σ.1 1 0 3))) d_B_size_4 rfl rfl K
def fn_C_isSkipped (σ : ST) (a1 : Int32) : Int32 := σ.1 16 0 (a1.toNatClampNeg)
def fs_C_isSkipped (σ : ST) (a1 : Int32) : Prop := (vp_in a1 8) ∧ ((σ.1 16 0 (a1.toNatClampNeg)) = 0 ∨ (σ.1 16 0 (a1.toNatClampNeg)) = 1)
theorem f_C_isSkipped {d : Nat} {σ : ST} {a1 : Int32} {post : Option AV → ST → Prop} (KS : fs_C_isSkipped σ a1) (K : post (some (vI (fn_C_isSkipped σ a1))) σ) : Ev none d m_C_isSkipped 0 [some (vR 2 0), some (vI a1)] [] σ post := by
  unfold fn_C_isSkipped at K
  unfold fs_C_isSkipped at KS
  obtain ⟨q1, q2⟩ := KS
  refine ev_aload_n d_C_isSkipped_0 rfl rfl ?_
  refine ev_getR gf_C_17 rfl (by decide) d_C_isSkipped_1 ?_
  refine ev_iload_n d_C_isSkipped_4 rfl rfl ?_
  refine ev_zald rfl (by decide) (by decide) q1 d_C_isSkipped_5 ?_
  exact ev_ret (r := some (vI (σ.1 16 0 (a1.toNatClampNeg)))) d_C_isSkipped_6 rfl ⟨rfl, q2⟩ K
abbrev fx_C_person (σ : ST) (a1 : Int32) : Nat := (a1.toNatClampNeg)
def fs_C_person (σ : ST) (a1 : Int32) : Prop := vp_in a1 6
theorem f_C_person {d : Nat} {σ : ST} {a1 : Int32} {post : Option AV → ST → Prop} (KS : fs_C_person σ a1) (K : post (some (vR 3 (fx_C_person σ a1))) σ) : Ev none d m_C_person 0 [some (vR 2 0), some (vI a1)] [] σ post := by
  unfold fs_C_person at KS
  have q1 := KS
  refine ev_aload_n d_C_person_0 rfl rfl ?_
  refine ev_getR gf_C_11 rfl (by decide) d_C_person_1 ?_
  refine ev_iload_n d_C_person_4 rfl rfl ?_
  refine ev_aald3 rfl (by decide) (by decide) q1 d_C_person_5 ?_
  have b2 := ix_lt q1
  exact ev_ret (r := some (vR 3 (a1.toNatClampNeg))) d_C_person_6 rfl rfl K
theorem fb_C_person {σ : ST} {a1 : Int32} (KS : fs_C_person σ a1) : fx_C_person σ a1 < 6 := by
  unfold fs_C_person at KS
  exact ix_lt KS
def fn_R_joy (σ : ST) (i : Nat) : Int32 := σ.1 19 i ((1 : Int32).toNatClampNeg)
theorem f_R_joy {d : Nat} {σ : ST} {i : Nat} {post : Option AV → ST → Prop} (hi : i < 6) (K : post (some (vI (fn_R_joy σ i))) σ) : Ev none d m_R_joy 0 [some (vR 3 i)] [] σ post := by
  unfold fn_R_joy at K
  refine ev_aload_n d_R_joy_0 rfl rfl ?_
  refine ev_getO gf_R_19 rfl hi d_R_joy_1 ?_
  refine ev_iconst (v := 1) d_R_joy_4 (by decide) ?_
  refine ev_iald rfl (by decide) hi (by unfold vp_in; decide) d_R_joy_5 ?_
  exact ev_ret (r := some (vI (σ.1 19 i ((1 : Int32).toNatClampNeg)))) d_R_joy_6 rfl rfl K
def fn_R_likes (σ : ST) (i : Nat) (a1 : Int32) : Int32 := σ.1 18 i (a1.toNatClampNeg)
def fs_R_likes (σ : ST) (i : Nat) (a1 : Int32) : Prop := (vp_in a1 8) ∧ ((σ.1 18 i (a1.toNatClampNeg)) = 0 ∨ (σ.1 18 i (a1.toNatClampNeg)) = 1)
theorem f_R_likes {d : Nat} {σ : ST} {i : Nat} {a1 : Int32} {post : Option AV → ST → Prop} (hi : i < 6) (KS : fs_R_likes σ i a1) (K : post (some (vI (fn_R_likes σ i a1))) σ) : Ev none d m_R_likes 0 [some (vR 3 i), some (vI a1)] [] σ post := by
  unfold fn_R_likes at K
  unfold fs_R_likes at KS
  obtain ⟨q1, q2⟩ := KS
  refine ev_aload_n d_R_likes_0 rfl rfl ?_
  refine ev_getO gf_R_15 rfl hi d_R_likes_1 ?_
  refine ev_iload_n d_R_likes_4 rfl rfl ?_
  refine ev_zald rfl (by decide) hi q1 d_R_likes_5 ?_
  exact ev_ret (r := some (vI (σ.1 18 i (a1.toNatClampNeg)))) d_R_likes_6 rfl ⟨rfl, q2⟩ K
def fn_R_mood (σ : ST) (i : Nat) : Int32 := σ.1 19 i ((2 : Int32).toNatClampNeg)
theorem f_R_mood {d : Nat} {σ : ST} {i : Nat} {post : Option AV → ST → Prop} (hi : i < 6) (K : post (some (vI (fn_R_mood σ i))) σ) : Ev none d m_R_mood 0 [some (vR 3 i)] [] σ post := by
  unfold fn_R_mood at K
  refine ev_aload_n d_R_mood_0 rfl rfl ?_
  refine ev_getO gf_R_19 rfl hi d_R_mood_1 ?_
  refine ev_iconst (v := 2) d_R_mood_4 (by decide) ?_
  refine ev_iald rfl (by decide) hi (by unfold vp_in; decide) d_R_mood_5 ?_
  exact ev_ret (r := some (vI (σ.1 19 i ((2 : Int32).toNatClampNeg)))) d_R_mood_6 rfl rfl K
def fn_R_speedFor (σ : ST) (i : Nat) (a1 : Int32) : Int32 := σ.1 17 i (a1.toNatClampNeg)
def fs_R_speedFor (σ : ST) (i : Nat) (a1 : Int32) : Prop := vp_in a1 3
theorem f_R_speedFor {d : Nat} {σ : ST} {i : Nat} {a1 : Int32} {post : Option AV → ST → Prop} (hi : i < 6) (KS : fs_R_speedFor σ i a1) (K : post (some (vI (fn_R_speedFor σ i a1))) σ) : Ev none d m_R_speedFor 0 [some (vR 3 i), some (vI a1)] [] σ post := by
  unfold fn_R_speedFor at K
  unfold fs_R_speedFor at KS
  have q1 := KS
  refine ev_aload_n d_R_speedFor_0 rfl rfl ?_
  refine ev_getO gf_R_9 rfl hi d_R_speedFor_1 ?_
  refine ev_iload_n d_R_speedFor_4 rfl rfl ?_
  refine ev_iald rfl (by decide) hi q1 d_R_speedFor_5 ?_
  exact ev_ret (r := some (vI (σ.1 17 i (a1.toNatClampNeg)))) d_R_speedFor_6 rfl rfl K
def fn_R_work (σ : ST) (i : Nat) : Int32 := σ.1 19 i ((0 : Int32).toNatClampNeg)
theorem f_R_work {d : Nat} {σ : ST} {i : Nat} {post : Option AV → ST → Prop} (hi : i < 6) (K : post (some (vI (fn_R_work σ i))) σ) : Ev none d m_R_work 0 [some (vR 3 i)] [] σ post := by
  unfold fn_R_work at K
  refine ev_aload_n d_R_work_0 rfl rfl ?_
  refine ev_getO gf_R_19 rfl hi d_R_work_1 ?_
  refine ev_iconst (v := 0) d_R_work_4 (by decide) ?_
  refine ev_iald rfl (by decide) hi (by unfold vp_in; decide) d_R_work_5 ?_
  exact ev_ret (r := some (vI (σ.1 19 i ((0 : Int32).toNatClampNeg)))) d_R_work_6 rfl rfl K
def fn_E_chapters (σ : ST)  : Int32 := σ.1 4 0 2
theorem f_E_chapters {d : Nat} {σ : ST}  {post : Option AV → ST → Prop} (K : post (some (vI (fn_E_chapters σ))) σ) : Ev none d m_E_chapters 0 [some (vR 4 0)] [] σ post := by
  unfold fn_E_chapters at K
  refine ev_aload_n d_E_chapters_0 rfl rfl ?_
  refine ev_getI gf_E_15 rfl (by decide) d_E_chapters_1 ?_
  exact ev_ret (r := some (vI (σ.1 4 0 2))) d_E_chapters_4 rfl rfl K
def fn_E_minute (σ : ST)  : Int32 := σ.1 4 0 3
theorem f_E_minute {d : Nat} {σ : ST}  {post : Option AV → ST → Prop} (K : post (some (vI (fn_E_minute σ))) σ) : Ev none d m_E_minute 0 [some (vR 4 0)] [] σ post := by
  unfold fn_E_minute at K
  refine ev_aload_n d_E_minute_0 rfl rfl ?_
  refine ev_getI gf_E_19 rfl (by decide) d_E_minute_1 ?_
  exact ev_ret (r := some (vI (σ.1 4 0 3))) d_E_minute_4 rfl rfl K
def fn_E_next (σ : ST)  : Int32 := σ.1 4 0 4
theorem f_E_next {d : Nat} {σ : ST}  {post : Option AV → ST → Prop} (K : post (some (vI (fn_E_next σ))) σ) : Ev none d m_E_next 0 [some (vR 4 0)] [] σ post := by
  unfold fn_E_next at K
  refine ev_aload_n d_E_next_0 rfl rfl ?_
  refine ev_getI gf_E_22 rfl (by decide) d_E_next_1 ?_
  exact ev_ret (r := some (vI (σ.1 4 0 4))) d_E_next_4 rfl rfl K
def fn_E_waitOf (σ : ST) (a1 : Int32) : Int32 := σ.1 20 0 (a1.toNatClampNeg)
def fs_E_waitOf (σ : ST) (a1 : Int32) : Prop := vp_in a1 6
theorem f_E_waitOf {d : Nat} {σ : ST} {a1 : Int32} {post : Option AV → ST → Prop} (KS : fs_E_waitOf σ a1) (K : post (some (vI (fn_E_waitOf σ a1))) σ) : Ev none d m_E_waitOf 0 [some (vR 4 0), some (vI a1)] [] σ post := by
  unfold fn_E_waitOf at K
  unfold fs_E_waitOf at KS
  have q1 := KS
  refine ev_aload_n d_E_waitOf_0 rfl rfl ?_
  refine ev_getR gf_E_9 rfl (by decide) d_E_waitOf_1 ?_
  refine ev_iload_n d_E_waitOf_4 rfl rfl ?_
  refine ev_iald rfl (by decide) (by decide) q1 d_E_waitOf_5 ?_
  exact ev_ret (r := some (vI (σ.1 20 0 (a1.toNatClampNeg)))) d_E_waitOf_6 rfl rfl K
abbrev fp_P_isNoBetter (σ : ST) (a1 : Int32) (a2 : Int32) (a3 : Int32) : Prop := ((a2 + (σ.1 25 0 (a1.toNatClampNeg))) < (σ.1 5 0 8)) ∨ (((a2 + (σ.1 25 0 (a1.toNatClampNeg))) = (σ.1 5 0 8)) ∧ (¬ (a3 < (σ.1 5 0 9))))
def fs_P_isNoBetter (σ : ST) (a1 : Int32) (a2 : Int32) (a3 : Int32) : Prop := vp_in a1 9
theorem f_P_isNoBetter {d : Nat} {σ : ST} {a1 : Int32} {a2 : Int32} {a3 : Int32} {post : Option AV → ST → Prop} (KS : fs_P_isNoBetter σ a1 a2 a3) (K : post (some (vI (bi (fp_P_isNoBetter σ a1 a2 a3)))) σ) : Ev none d m_P_isNoBetter 0 [some (vR 5 0), some (vI a1), some (vI a2), some (vI a3), none] [] σ post := by
  unfold fp_P_isNoBetter at K
  unfold fs_P_isNoBetter at KS
  have q1 := KS
  refine ev_iload_n d_P_isNoBetter_0 rfl rfl ?_
  refine ev_aload_n d_P_isNoBetter_1 rfl rfl ?_
  refine ev_getR gf_P_24 rfl (by decide) d_P_isNoBetter_2 ?_
  refine ev_iload_n d_P_isNoBetter_5 rfl rfl ?_
  refine ev_iald rfl (by decide) (by decide) q1 d_P_isNoBetter_6 ?_
  refine ev_iadd d_P_isNoBetter_7 ?_
  refine ev_istore (L' := [some (vR 5 0), some (vI a1), some (vI a2), some (vI a3), some (vI (a2 + (σ.1 25 0 (a1.toNatClampNeg))))]) d_P_isNoBetter_8 (by decide) rfl ?_
  refine ev_iload d_P_isNoBetter_10 rfl ?_
  refine ev_aload_n d_P_isNoBetter_12 rfl rfl ?_
  refine ev_getI gf_P_34 rfl (by decide) d_P_isNoBetter_13 ?_
  refine ev_icmp_lt (tgt := 36) d_P_isNoBetter_16 rfl (fun h2 => ?_) (fun h2 => ?_)
  · rw [b4t h2] at K
    refine ev_iconst (v := 1) d_P_isNoBetter_36 (by decide) ?_
    refine ev_goto (tgt := 41) d_P_isNoBetter_37 rfl ?_
    exact ev_ret (r := some (vI (1 : Int32))) d_P_isNoBetter_41 rfl ⟨rfl, by decide⟩ K
  · rw [b4f h2] at K
    refine ev_iload d_P_isNoBetter_19 rfl ?_
    refine ev_aload_n d_P_isNoBetter_21 rfl rfl ?_
    refine ev_getI gf_P_34 rfl (by decide) d_P_isNoBetter_22 ?_
    refine ev_icmp_ne (tgt := 40) d_P_isNoBetter_25 rfl (fun h3 => ?_) (fun h3 => ?_)
    · rw [b3f h3] at K
      refine ev_iconst (v := 0) d_P_isNoBetter_40 (by decide) ?_
      exact ev_ret (r := some (vI (0 : Int32))) d_P_isNoBetter_41 rfl ⟨rfl, by decide⟩ K
    · rw [b3t h3] at K
      refine ev_iload_n d_P_isNoBetter_28 rfl rfl ?_
      refine ev_aload_n d_P_isNoBetter_29 rfl rfl ?_
      refine ev_getI gf_P_37 rfl (by decide) d_P_isNoBetter_30 ?_
      refine ev_icmp_lt (tgt := 40) d_P_isNoBetter_33 rfl (fun h4 => ?_) (fun h4 => ?_)
      · rw [bi_f (not_not_intro h4)] at K
        refine ev_iconst (v := 0) d_P_isNoBetter_40 (by decide) ?_
        exact ev_ret (r := some (vI (0 : Int32))) d_P_isNoBetter_41 rfl ⟨rfl, by decide⟩ K
      · rw [bi_t h4] at K
        refine ev_iconst (v := 1) d_P_isNoBetter_36 (by decide) ?_
        refine ev_goto (tgt := 41) d_P_isNoBetter_37 rfl ?_
        exact ev_ret (r := some (vI (1 : Int32))) d_P_isNoBetter_41 rfl ⟨rfl, by decide⟩ K
def fn_P_lines (σ : ST)  : Int32 := σ.1 5 0 8
theorem f_P_lines {d : Nat} {σ : ST}  {post : Option AV → ST → Prop} (K : post (some (vI (fn_P_lines σ))) σ) : Ev none d m_P_lines 0 [some (vR 5 0)] [] σ post := by
  unfold fn_P_lines at K
  refine ev_aload_n d_P_lines_0 rfl rfl ?_
  refine ev_getI gf_P_34 rfl (by decide) d_P_lines_1 ?_
  exact ev_ret (r := some (vI (σ.1 5 0 8))) d_P_lines_4 rfl rfl K
def fn_P_minutes (σ : ST)  : Int32 := σ.1 5 0 10
theorem f_P_minutes {d : Nat} {σ : ST}  {post : Option AV → ST → Prop} (K : post (some (vI (fn_P_minutes σ))) σ) : Ev none d m_P_minutes 0 [some (vR 5 0)] [] σ post := by
  unfold fn_P_minutes at K
  refine ev_aload_n d_P_minutes_0 rfl rfl ?_
  refine ev_getI gf_P_40 rfl (by decide) d_P_minutes_1 ?_
  exact ev_ret (r := some (vI (σ.1 5 0 10))) d_P_minutes_4 rfl rfl K
def fn_P_waits (σ : ST)  : Int32 := σ.1 5 0 9
theorem f_P_waits {d : Nat} {σ : ST}  {post : Option AV → ST → Prop} (K : post (some (vI (fn_P_waits σ))) σ) : Ev none d m_P_waits 0 [some (vR 5 0)] [] σ post := by
  unfold fn_P_waits at K
  refine ev_aload_n d_P_waits_0 rfl rfl ?_
  refine ev_getI gf_P_37 rfl (by decide) d_P_waits_1 ?_
  exact ev_ret (r := some (vI (σ.1 5 0 9))) d_P_waits_4 rfl rfl K
def fn_P_wayOf (σ : ST) (a1 : Int32) : Int32 := σ.1 24 0 (a1.toNatClampNeg)
def fs_P_wayOf (σ : ST) (a1 : Int32) : Prop := vp_in a1 8
theorem f_P_wayOf {d : Nat} {σ : ST} {a1 : Int32} {post : Option AV → ST → Prop} (KS : fs_P_wayOf σ a1) (K : post (some (vI (fn_P_wayOf σ a1))) σ) : Ev none d m_P_wayOf 0 [some (vR 5 0), some (vI a1)] [] σ post := by
  unfold fn_P_wayOf at K
  unfold fs_P_wayOf at KS
  have q1 := KS
  refine ev_aload_n d_P_wayOf_0 rfl rfl ?_
  refine ev_getR gf_P_21 rfl (by decide) d_P_wayOf_1 ?_
  refine ev_iload_n d_P_wayOf_4 rfl rfl ?_
  refine ev_iald rfl (by decide) (by decide) q1 d_P_wayOf_5 ?_
  exact ev_ret (r := some (vI (σ.1 24 0 (a1.toNatClampNeg)))) d_P_wayOf_6 rfl rfl K
def fn_S_restAt (σ : ST) (a1 : Int32) : Int32 := if a1 < 0 then (-1 : Int32) else (if (σ.1 6 0 4) ≤ a1 then (-1 : Int32) else (σ.1 28 0 (a1.toNatClampNeg)))
def fs_S_restAt (σ : ST) (a1 : Int32) : Prop := ((a1 < 0) → True) ∧ (¬ (a1 < 0) → ((((σ.1 6 0 4) ≤ a1) → True) ∧ (¬ ((σ.1 6 0 4) ≤ a1) → (vp_in a1 16))))
theorem f_S_restAt {d : Nat} {σ : ST} {a1 : Int32} {post : Option AV → ST → Prop} (KS : fs_S_restAt σ a1) (K : post (some (vI (fn_S_restAt σ a1))) σ) : Ev none d m_S_restAt 0 [some (vR 6 0), some (vI a1)] [] σ post := by
  unfold fn_S_restAt at K
  unfold fs_S_restAt at KS
  refine ev_iload_n d_S_restAt_0 rfl rfl ?_
  refine ev_if_lt (tgt := 21) d_S_restAt_1 rfl (fun h2 => ?_) (fun h2 => ?_)
  · replace KS := KS.1 h2
    rw [if_pos h2] at K
    refine ev_iconst (v := -1) d_S_restAt_21 (by decide) ?_
    exact ev_ret (r := some (vI (-1 : Int32))) d_S_restAt_22 rfl rfl K
  · replace KS := KS.2 h2
    rw [if_neg h2] at K
    refine ev_iload_n d_S_restAt_4 rfl rfl ?_
    refine ev_aload_n d_S_restAt_5 rfl rfl ?_
    refine ev_getI gf_S_21 rfl (by decide) d_S_restAt_6 ?_
    refine ev_icmp_ge (tgt := 21) d_S_restAt_9 rfl (fun h3 => ?_) (fun h3 => ?_)
    · replace KS := KS.1 h3
      rw [if_pos h3] at K
      refine ev_iconst (v := -1) d_S_restAt_21 (by decide) ?_
      exact ev_ret (r := some (vI (-1 : Int32))) d_S_restAt_22 rfl rfl K
    · replace KS := KS.2 h3
      rw [if_neg h3] at K
      have q1 := KS
      refine ev_aload_n d_S_restAt_12 rfl rfl ?_
      refine ev_getR gf_S_18 rfl (by decide) d_S_restAt_13 ?_
      refine ev_iload_n d_S_restAt_16 rfl rfl ?_
      refine ev_iald rfl (by decide) (by decide) q1 d_S_restAt_17 ?_
      refine ev_goto (tgt := 22) d_S_restAt_18 rfl ?_
      exact ev_ret (r := some (vI (σ.1 28 0 (a1.toNatClampNeg)))) d_S_restAt_22 rfl rfl K
def fn_S_restCount (σ : ST)  : Int32 := σ.1 6 0 4
theorem f_S_restCount {d : Nat} {σ : ST}  {post : Option AV → ST → Prop} (K : post (some (vI (fn_S_restCount σ))) σ) : Ev none d m_S_restCount 0 [some (vR 6 0)] [] σ post := by
  unfold fn_S_restCount at K
  refine ev_aload_n d_S_restCount_0 rfl rfl ?_
  refine ev_getI gf_S_21 rfl (by decide) d_S_restCount_1 ?_
  exact ev_ret (r := some (vI (σ.1 6 0 4))) d_S_restCount_4 rfl rfl K
def fn_T_minutes (σ : ST)  : Int32 := σ.1 7 0 4
theorem f_T_minutes {d : Nat} {σ : ST}  {post : Option AV → ST → Prop} (K : post (some (vI (fn_T_minutes σ))) σ) : Ev none d m_T_minutes 0 [some (vR 7 0)] [] σ post := by
  unfold fn_T_minutes at K
  refine ev_aload_n d_T_minutes_0 rfl rfl ?_
  refine ev_getI gf_T_21 rfl (by decide) d_T_minutes_1 ?_
  exact ev_ret (r := some (vI (σ.1 7 0 4))) d_T_minutes_4 rfl rfl K
def fn_T_partnerOf (σ : ST) (a1 : Int32) : Int32 := σ.1 31 0 (a1.toNatClampNeg)
def fs_T_partnerOf (σ : ST) (a1 : Int32) : Prop := vp_in a1 6
theorem f_T_partnerOf {d : Nat} {σ : ST} {a1 : Int32} {post : Option AV → ST → Prop} (KS : fs_T_partnerOf σ a1) (K : post (some (vI (fn_T_partnerOf σ a1))) σ) : Ev none d m_T_partnerOf 0 [some (vR 7 0), some (vI a1)] [] σ post := by
  unfold fn_T_partnerOf at K
  unfold fs_T_partnerOf at KS
  have q1 := KS
  refine ev_aload_n d_T_partnerOf_0 rfl rfl ?_
  refine ev_getR gf_T_18 rfl (by decide) d_T_partnerOf_1 ?_
  refine ev_iload_n d_T_partnerOf_4 rfl rfl ?_
  refine ev_iald rfl (by decide) (by decide) q1 d_T_partnerOf_5 ?_
  exact ev_ret (r := some (vI (σ.1 31 0 (a1.toNatClampNeg)))) d_T_partnerOf_6 rfl rfl K
def fn_T_without (σ : ST) (a0 : Int32) (a1 : Int32) (a2 : Int32) : Int32 := (a0 &&& ((isl (1 : Int32) a1) ^^^ (-1 : Int32))) &&& ((isl (1 : Int32) a2) ^^^ (-1 : Int32))
theorem f_T_without {d : Nat} {σ : ST} {a0 : Int32} {a1 : Int32} {a2 : Int32} {post : Option AV → ST → Prop} (K : post (some (vI (fn_T_without σ a0 a1 a2))) σ) : Ev none d m_T_without 0 [some (vI a0), some (vI a1), some (vI a2)] [] σ post := by
  unfold fn_T_without at K
  refine ev_iload_n d_T_without_0 rfl rfl ?_
  refine ev_iconst (v := 1) d_T_without_1 (by decide) ?_
  refine ev_iload_n d_T_without_2 rfl rfl ?_
  refine ev_ishl d_T_without_3 ?_
  refine ev_iconst (v := -1) d_T_without_4 (by decide) ?_
  refine ev_ixor d_T_without_5 ?_
  refine ev_iand d_T_without_6 ?_
  refine ev_iconst (v := 1) d_T_without_7 (by decide) ?_
  refine ev_iload_n d_T_without_8 rfl rfl ?_
  refine ev_ishl d_T_without_9 ?_
  refine ev_iconst (v := -1) d_T_without_10 (by decide) ?_
  refine ev_ixor d_T_without_11 ?_
  refine ev_iand d_T_without_12 ?_
  exact ev_ret (r := some (vI ((a0 &&& ((isl (1 : Int32) a1) ^^^ (-1 : Int32))) &&& ((isl (1 : Int32) a2) ^^^ (-1 : Int32))))) d_T_without_13 rfl rfl K
def fn_U_size (σ : ST)  : Int32 := σ.1 8 0 4
theorem f_U_size {d : Nat} {σ : ST}  {post : Option AV → ST → Prop} (K : post (some (vI (fn_U_size σ))) σ) : Ev none d m_U_size 0 [some (vR 8 0)] [] σ post := by
  unfold fn_U_size at K
  refine ev_aload_n d_U_size_0 rfl rfl ?_
  refine ev_getI gf_U_21 rfl (by decide) d_U_size_1 ?_
  exact ev_ret (r := some (vI (σ.1 8 0 4))) d_U_size_4 rfl rfl K
def fn_D_above (σ : ST)  : Int64 := σ.2 9 0 7
theorem f_D_above {d : Nat} {σ : ST}  {post : Option AV → ST → Prop} (K : post (some (vJ (fn_D_above σ))) σ) : Ev none d m_D_above 0 [some (vR 9 0)] [] σ post := by
  unfold fn_D_above at K
  refine ev_aload_n d_D_above_0 rfl rfl ?_
  refine ev_getJ gf_D_32 rfl (by decide) d_D_above_1 ?_
  exact ev_ret (r := some (vJ (σ.2 9 0 7))) d_D_above_4 rfl rfl K
def fn_D_below (σ : ST)  : Int64 := σ.2 9 0 8
theorem f_D_below {d : Nat} {σ : ST}  {post : Option AV → ST → Prop} (K : post (some (vJ (fn_D_below σ))) σ) : Ev none d m_D_below 0 [some (vR 9 0)] [] σ post := by
  unfold fn_D_below at K
  refine ev_aload_n d_D_below_0 rfl rfl ?_
  refine ev_getJ gf_D_36 rfl (by decide) d_D_below_1 ?_
  exact ev_ret (r := some (vJ (σ.2 9 0 8))) d_D_below_4 rfl rfl K
def fn_H_form (σ : ST) (i : Nat) : Int32 := σ.1 10 i 2
theorem f_H_form {d : Nat} {σ : ST} {i : Nat} {post : Option AV → ST → Prop} (hi : i < 4) (K : post (some (vI (fn_H_form σ i))) σ) : Ev none d m_H_form 0 [some (vR 10 i)] [] σ post := by
  unfold fn_H_form at K
  refine ev_aload_n d_H_form_0 rfl rfl ?_
  refine ev_getI gf_H_19 rfl hi d_H_form_1 ?_
  exact ev_ret (r := some (vI (σ.1 10 i 2))) d_H_form_4 rfl rfl K
def fn_H_isLost (σ : ST) (i : Nat) : Int32 := σ.1 10 i 1
def fs_H_isLost (σ : ST) (i : Nat) : Prop := ((σ.1 10 i 1) = 0 ∨ (σ.1 10 i 1) = 1)
theorem f_H_isLost {d : Nat} {σ : ST} {i : Nat} {post : Option AV → ST → Prop} (hi : i < 4) (KS : fs_H_isLost σ i) (K : post (some (vI (fn_H_isLost σ i))) σ) : Ev none d m_H_isLost 0 [some (vR 10 i)] [] σ post := by
  unfold fn_H_isLost at K
  unfold fs_H_isLost at KS
  have q1 := KS
  refine ev_aload_n d_H_isLost_0 rfl rfl ?_
  refine ev_getZ gf_H_15 rfl hi d_H_isLost_1 ?_
  exact ev_ret (r := some (vI (σ.1 10 i 1))) d_H_isLost_4 rfl ⟨rfl, q1⟩ K
def fn_H_item (σ : ST) (i : Nat) (a1 : Int32) : Int32 := σ.1 41 i (a1.toNatClampNeg)
def fs_H_item (σ : ST) (i : Nat) (a1 : Int32) : Prop := vp_in a1 60
theorem f_H_item {d : Nat} {σ : ST} {i : Nat} {a1 : Int32} {post : Option AV → ST → Prop} (hi : i < 4) (KS : fs_H_item σ i a1) (K : post (some (vI (fn_H_item σ i a1))) σ) : Ev none d m_H_item 0 [some (vR 10 i), some (vI a1)] [] σ post := by
  unfold fn_H_item at K
  unfold fs_H_item at KS
  have q1 := KS
  refine ev_aload_n d_H_item_0 rfl rfl ?_
  refine ev_getO gf_H_9 rfl hi d_H_item_1 ?_
  refine ev_iload_n d_H_item_4 rfl rfl ?_
  refine ev_iald rfl (by decide) hi q1 d_H_item_5 ?_
  exact ev_ret (r := some (vI (σ.1 41 i (a1.toNatClampNeg)))) d_H_item_6 rfl rfl K
def fn_H_narrow (σ : ST) (i : Nat) (a1 : Int32) : Int32 := if (σ.1 10 i 2) = 0 then ((Int32.toInt8 a1).toInt32) else (if (σ.1 10 i 2) = (1 : Int32) then ((Int32.toInt16 a1).toInt32) else a1)
theorem f_H_narrow {d : Nat} {σ : ST} {i : Nat} {a1 : Int32} {post : Option AV → ST → Prop} (hi : i < 4) (K : post (some (vI (fn_H_narrow σ i a1))) σ) : Ev none d m_H_narrow 0 [some (vR 10 i), some (vI a1)] [] σ post := by
  unfold fn_H_narrow at K
  refine ev_aload_n d_H_narrow_0 rfl rfl ?_
  refine ev_getI gf_H_19 rfl hi d_H_narrow_1 ?_
  refine ev_if_ne (tgt := 10) d_H_narrow_4 rfl (fun h1 => ?_) (fun h1 => ?_)
  · rw [if_neg h1] at K
    refine ev_aload_n d_H_narrow_10 rfl rfl ?_
    refine ev_getI gf_H_19 rfl hi d_H_narrow_11 ?_
    refine ev_iconst (v := 1) d_H_narrow_14 (by decide) ?_
    refine ev_icmp_ne (tgt := 23) d_H_narrow_15 rfl (fun h2 => ?_) (fun h2 => ?_)
    · rw [if_neg h2] at K
      refine ev_iload_n d_H_narrow_23 rfl rfl ?_
      exact ev_ret (r := some (vI a1)) d_H_narrow_24 rfl rfl K
    · rw [if_pos h2] at K
      refine ev_iload_n d_H_narrow_18 rfl rfl ?_
      refine ev_i2s d_H_narrow_19 ?_
      refine ev_goto (tgt := 24) d_H_narrow_20 rfl ?_
      exact ev_ret (r := some (vI ((Int32.toInt16 a1).toInt32))) d_H_narrow_24 rfl rfl K
  · rw [if_pos h1] at K
    refine ev_iload_n d_H_narrow_7 rfl rfl ?_
    refine ev_i2b d_H_narrow_8 ?_
    exact ev_ret (r := some (vI ((Int32.toInt8 a1).toInt32))) d_H_narrow_9 rfl rfl K
def fn_H_size (σ : ST) (i : Nat) : Int32 := σ.1 10 i 3
theorem f_H_size {d : Nat} {σ : ST} {i : Nat} {post : Option AV → ST → Prop} (hi : i < 4) (K : post (some (vI (fn_H_size σ i))) σ) : Ev none d m_H_size 0 [some (vR 10 i)] [] σ post := by
  unfold fn_H_size at K
  refine ev_aload_n d_H_size_0 rfl rfl ?_
  refine ev_getI gf_H_23 rfl hi d_H_size_1 ?_
  exact ev_ret (r := some (vI (σ.1 10 i 3))) d_H_size_4 rfl rfl K
abbrev fp_H_spans (σ : ST) (i : Nat) (a1 : Int32) (a2 : Int32) : Prop := ¬ (a1 < 0) ∧ (¬ (a2 < 0) ∧ (¬ (((σ.1 10 i 3) - a2) < a1)))
theorem f_H_spans {d : Nat} {σ : ST} {i : Nat} {a1 : Int32} {a2 : Int32} {post : Option AV → ST → Prop} (hi : i < 4) (K : post (some (vI (bi (fp_H_spans σ i a1 a2)))) σ) : Ev none d m_H_spans 0 [some (vR 10 i), some (vI a1), some (vI a2)] [] σ post := by
  unfold fp_H_spans at K
  refine ev_iload_n d_H_spans_0 rfl rfl ?_
  refine ev_if_lt (tgt := 22) d_H_spans_1 rfl (fun h1 => ?_) (fun h1 => ?_)
  · rw [b5t h1] at K
    refine ev_iconst (v := 0) d_H_spans_22 (by decide) ?_
    exact ev_ret (r := some (vI (0 : Int32))) d_H_spans_23 rfl ⟨rfl, by decide⟩ K
  · rw [b5f h1] at K
    refine ev_iload_n d_H_spans_4 rfl rfl ?_
    refine ev_if_lt (tgt := 22) d_H_spans_5 rfl (fun h2 => ?_) (fun h2 => ?_)
    · rw [b5t h2] at K
      refine ev_iconst (v := 0) d_H_spans_22 (by decide) ?_
      exact ev_ret (r := some (vI (0 : Int32))) d_H_spans_23 rfl ⟨rfl, by decide⟩ K
    · rw [b5f h2] at K
      refine ev_iload_n d_H_spans_8 rfl rfl ?_
      refine ev_aload_n d_H_spans_9 rfl rfl ?_
      refine ev_getI gf_H_23 rfl hi d_H_spans_10 ?_
      refine ev_iload_n d_H_spans_13 rfl rfl ?_
      refine ev_isub d_H_spans_14 ?_
      refine ev_icmp_gt (tgt := 22) d_H_spans_15 rfl (fun h3 => ?_) (fun h3 => ?_)
      · rw [bi_f (not_not_intro h3)] at K
        refine ev_iconst (v := 0) d_H_spans_22 (by decide) ?_
        exact ev_ret (r := some (vI (0 : Int32))) d_H_spans_23 rfl ⟨rfl, by decide⟩ K
      · rw [bi_t h3] at K
        refine ev_iconst (v := 1) d_H_spans_18 (by decide) ?_
        refine ev_goto (tgt := 23) d_H_spans_19 rfl ?_
        exact ev_ret (r := some (vI (1 : Int32))) d_H_spans_23 rfl ⟨rfl, by decide⟩ K
def fn_M_amount (σ : ST) (a0 : Int32) : Int32 := if 0 ≤ a0 then a0 else (-a0)
theorem f_M_amount {d : Nat} {σ : ST} {a0 : Int32} {post : Option AV → ST → Prop} (K : post (some (vI (fn_M_amount σ a0))) σ) : Ev none d m_M_amount 0 [some (vI a0)] [] σ post := by
  unfold fn_M_amount at K
  refine ev_iload_n d_M_amount_0 rfl rfl ?_
  refine ev_if_ge (tgt := 9) d_M_amount_1 rfl (fun h1 => ?_) (fun h1 => ?_)
  · rw [if_pos h1] at K
    refine ev_iload_n d_M_amount_9 rfl rfl ?_
    exact ev_ret (r := some (vI a0)) d_M_amount_10 rfl rfl K
  · rw [if_neg h1] at K
    refine ev_iload_n d_M_amount_4 rfl rfl ?_
    refine ev_ineg d_M_amount_5 ?_
    refine ev_goto (tgt := 10) d_M_amount_6 rfl ?_
    exact ev_ret (r := some (vI (-a0))) d_M_amount_10 rfl rfl K
def fn_M_bestOf (σ : ST) (a1 : Int32) : Int32 := if a1 = 0 then (σ.1 11 0 24) else (if a1 = (1 : Int32) then (σ.1 11 0 25) else (σ.1 11 0 26))
theorem f_M_bestOf {d : Nat} {σ : ST} {a1 : Int32} {post : Option AV → ST → Prop} (K : post (some (vI (fn_M_bestOf σ a1))) σ) : Ev none d m_M_bestOf 0 [some (vR 11 0), some (vI a1)] [] σ post := by
  unfold fn_M_bestOf at K
  refine ev_iload_n d_M_bestOf_0 rfl rfl ?_
  refine ev_if_ne (tgt := 11) d_M_bestOf_1 rfl (fun h1 => ?_) (fun h1 => ?_)
  · rw [if_neg h1] at K
    refine ev_iload_n d_M_bestOf_11 rfl rfl ?_
    refine ev_iconst (v := 1) d_M_bestOf_12 (by decide) ?_
    refine ev_icmp_ne (tgt := 23) d_M_bestOf_13 rfl (fun h2 => ?_) (fun h2 => ?_)
    · rw [if_neg h2] at K
      refine ev_aload_n d_M_bestOf_23 rfl rfl ?_
      refine ev_getI gf_M_217 rfl (by decide) d_M_bestOf_24 ?_
      exact ev_ret (r := some (vI (σ.1 11 0 26))) d_M_bestOf_27 rfl rfl K
    · rw [if_pos h2] at K
      refine ev_aload_n d_M_bestOf_16 rfl rfl ?_
      refine ev_getI gf_M_214 rfl (by decide) d_M_bestOf_17 ?_
      refine ev_goto (tgt := 27) d_M_bestOf_20 rfl ?_
      exact ev_ret (r := some (vI (σ.1 11 0 25))) d_M_bestOf_27 rfl rfl K
  · rw [if_pos h1] at K
    refine ev_aload_n d_M_bestOf_4 rfl rfl ?_
    refine ev_getI gf_M_211 rfl (by decide) d_M_bestOf_5 ?_
    refine ev_goto (tgt := 27) d_M_bestOf_8 rfl ?_
    exact ev_ret (r := some (vI (σ.1 11 0 24))) d_M_bestOf_27 rfl rfl K
def fn_M_chapterOf (σ : ST) (a1 : Int32) (a2 : Int32) : Int32 := if a2 = 0 then (σ.1 47 0 (a1.toNatClampNeg)) else (if a2 = (1 : Int32) then (σ.1 48 0 (a1.toNatClampNeg)) else ((isr (σ.1 11 0 11) a1) &&& (1 : Int32)))
def fs_M_chapterOf (σ : ST) (a1 : Int32) (a2 : Int32) : Prop := ((a2 = 0) → (vp_in a1 8)) ∧ (¬ (a2 = 0) → (((a2 = (1 : Int32)) → (vp_in a1 8)) ∧ (¬ (a2 = (1 : Int32)) → True)))
theorem f_M_chapterOf {d : Nat} {σ : ST} {a1 : Int32} {a2 : Int32} {post : Option AV → ST → Prop} (KS : fs_M_chapterOf σ a1 a2) (K : post (some (vI (fn_M_chapterOf σ a1 a2))) σ) : Ev none d m_M_chapterOf 0 [some (vR 11 0), some (vI a1), some (vI a2)] [] σ post := by
  unfold fn_M_chapterOf at K
  unfold fs_M_chapterOf at KS
  refine ev_iload_n d_M_chapterOf_0 rfl rfl ?_
  refine ev_if_ne (tgt := 13) d_M_chapterOf_1 rfl (fun h3 => ?_) (fun h3 => ?_)
  · replace KS := KS.2 h3
    rw [if_neg h3] at K
    refine ev_iload_n d_M_chapterOf_13 rfl rfl ?_
    refine ev_iconst (v := 1) d_M_chapterOf_14 (by decide) ?_
    refine ev_icmp_ne (tgt := 27) d_M_chapterOf_15 rfl (fun h4 => ?_) (fun h4 => ?_)
    · replace KS := KS.2 h4
      rw [if_neg h4] at K
      refine ev_aload_n d_M_chapterOf_27 rfl rfl ?_
      refine ev_getI gf_M_140 rfl (by decide) d_M_chapterOf_28 ?_
      refine ev_iload_n d_M_chapterOf_31 rfl rfl ?_
      refine ev_ishr d_M_chapterOf_32 ?_
      refine ev_iconst (v := 1) d_M_chapterOf_33 (by decide) ?_
      refine ev_iand d_M_chapterOf_34 ?_
      exact ev_ret (r := some (vI ((isr (σ.1 11 0 11) a1) &&& (1 : Int32)))) d_M_chapterOf_35 rfl rfl K
    · replace KS := KS.1 h4
      rw [if_pos h4] at K
      have q2 := KS
      refine ev_aload_n d_M_chapterOf_18 rfl rfl ?_
      refine ev_getR gf_M_28 rfl (by decide) d_M_chapterOf_19 ?_
      refine ev_iload_n d_M_chapterOf_22 rfl rfl ?_
      refine ev_iald rfl (by decide) (by decide) q2 d_M_chapterOf_23 ?_
      refine ev_goto (tgt := 35) d_M_chapterOf_24 rfl ?_
      exact ev_ret (r := some (vI (σ.1 48 0 (a1.toNatClampNeg)))) d_M_chapterOf_35 rfl rfl K
  · replace KS := KS.1 h3
    rw [if_pos h3] at K
    have q1 := KS
    refine ev_aload_n d_M_chapterOf_4 rfl rfl ?_
    refine ev_getR gf_M_25 rfl (by decide) d_M_chapterOf_5 ?_
    refine ev_iload_n d_M_chapterOf_8 rfl rfl ?_
    refine ev_iald rfl (by decide) (by decide) q1 d_M_chapterOf_9 ?_
    refine ev_goto (tgt := 35) d_M_chapterOf_10 rfl ?_
    exact ev_ret (r := some (vI (σ.1 47 0 (a1.toNatClampNeg)))) d_M_chapterOf_35 rfl rfl K
def fn_M_cut (σ : ST) (a0 : Int32) (a1 : Int32) : Int32 := if a0 = 0 then ((Int32.toInt8 a1).toInt32) else (if a0 = (1 : Int32) then ((Int32.toInt16 a1).toInt32) else a1)
theorem f_M_cut {d : Nat} {σ : ST} {a0 : Int32} {a1 : Int32} {post : Option AV → ST → Prop} (K : post (some (vI (fn_M_cut σ a0 a1))) σ) : Ev none d m_M_cut 0 [some (vI a0), some (vI a1)] [] σ post := by
  unfold fn_M_cut at K
  refine ev_iload_n d_M_cut_0 rfl rfl ?_
  refine ev_if_ne (tgt := 9) d_M_cut_1 rfl (fun h1 => ?_) (fun h1 => ?_)
  · rw [if_neg h1] at K
    refine ev_iload_n d_M_cut_9 rfl rfl ?_
    refine ev_iconst (v := 1) d_M_cut_10 (by decide) ?_
    refine ev_icmp_ne (tgt := 19) d_M_cut_11 rfl (fun h2 => ?_) (fun h2 => ?_)
    · rw [if_neg h2] at K
      refine ev_iload_n d_M_cut_19 rfl rfl ?_
      exact ev_ret (r := some (vI a1)) d_M_cut_20 rfl rfl K
    · rw [if_pos h2] at K
      refine ev_iload_n d_M_cut_14 rfl rfl ?_
      refine ev_i2s d_M_cut_15 ?_
      refine ev_goto (tgt := 20) d_M_cut_16 rfl ?_
      exact ev_ret (r := some (vI ((Int32.toInt16 a1).toInt32))) d_M_cut_20 rfl rfl K
  · rw [if_pos h1] at K
    refine ev_iload_n d_M_cut_4 rfl rfl ?_
    refine ev_i2b d_M_cut_5 ?_
    refine ev_goto (tgt := 20) d_M_cut_6 rfl ?_
    exact ev_ret (r := some (vI ((Int32.toInt8 a1).toInt32))) d_M_cut_20 rfl rfl K
def fn_M_here (σ : ST)  : Int32 := if (σ.1 11 0 6) ≤ (σ.1 11 0 7) then (-1 : Int32) else (σ.1 46 0 ((σ.1 11 0 7).toNatClampNeg))
def fs_M_here (σ : ST)  : Prop := (((σ.1 11 0 6) ≤ (σ.1 11 0 7)) → True) ∧ (¬ ((σ.1 11 0 6) ≤ (σ.1 11 0 7)) → (vp_in (σ.1 11 0 7) 60))
theorem f_M_here {d : Nat} {σ : ST}  {post : Option AV → ST → Prop} (KS : fs_M_here σ) (K : post (some (vI (fn_M_here σ))) σ) : Ev none d m_M_here 0 [some (vR 11 0)] [] σ post := by
  unfold fn_M_here at K
  unfold fs_M_here at KS
  refine ev_aload_n d_M_here_0 rfl rfl ?_
  refine ev_getI gf_M_110 rfl (by decide) d_M_here_1 ?_
  refine ev_aload_n d_M_here_4 rfl rfl ?_
  refine ev_getI gf_M_107 rfl (by decide) d_M_here_5 ?_
  refine ev_icmp_ge (tgt := 23) d_M_here_8 rfl (fun h2 => ?_) (fun h2 => ?_)
  · replace KS := KS.1 h2
    rw [if_pos h2] at K
    refine ev_iconst (v := -1) d_M_here_23 (by decide) ?_
    exact ev_ret (r := some (vI (-1 : Int32))) d_M_here_24 rfl rfl K
  · replace KS := KS.2 h2
    rw [if_neg h2] at K
    have q1 := KS
    refine ev_aload_n d_M_here_11 rfl rfl ?_
    refine ev_getR gf_M_22 rfl (by decide) d_M_here_12 ?_
    refine ev_aload_n d_M_here_15 rfl rfl ?_
    refine ev_getI gf_M_110 rfl (by decide) d_M_here_16 ?_
    refine ev_iald rfl (by decide) (by decide) q1 d_M_here_19 ?_
    refine ev_goto (tgt := 24) d_M_here_20 rfl ?_
    exact ev_ret (r := some (vI (σ.1 46 0 ((σ.1 11 0 7).toNatClampNeg)))) d_M_here_24 rfl rfl K
abbrev fp_M_in (σ : ST) (a0 : Int64) (a2 : Int64) (a4 : Int64) : Prop := ¬ (a0 < a2) ∧ (¬ (a4 < a0))
theorem f_M_in {d : Nat} {σ : ST} {a0 : Int64} {a2 : Int64} {a4 : Int64} {post : Option AV → ST → Prop} (K : post (some (vI (bi (fp_M_in σ a0 a2 a4)))) σ) : Ev none d m_M_in 0 [some (vJ a0), none, some (vJ a2), none, some (vJ a4), none] [] σ post := by
  unfold fp_M_in at K
  refine ev_lload_n d_M_in_0 rfl rfl ?_
  refine ev_lload_n d_M_in_1 rfl rfl ?_
  refine ev_lcmp d_M_in_2 ?_
  refine ev_ifc_lt (tgt := 17) d_M_in_3 rfl (fun h1 => ?_) (fun h1 => ?_)
  · rw [b5t h1] at K
    refine ev_iconst (v := 0) d_M_in_17 (by decide) ?_
    exact ev_ret (r := some (vI (0 : Int32))) d_M_in_18 rfl ⟨rfl, by decide⟩ K
  · rw [b5f h1] at K
    refine ev_lload_n d_M_in_6 rfl rfl ?_
    refine ev_lload d_M_in_7 rfl ?_
    refine ev_lcmp d_M_in_9 ?_
    refine ev_ifc_gt (tgt := 17) d_M_in_10 rfl (fun h2 => ?_) (fun h2 => ?_)
    · rw [bi_f (not_not_intro h2)] at K
      refine ev_iconst (v := 0) d_M_in_17 (by decide) ?_
      exact ev_ret (r := some (vI (0 : Int32))) d_M_in_18 rfl ⟨rfl, by decide⟩ K
    · rw [bi_t h2] at K
      refine ev_iconst (v := 1) d_M_in_13 (by decide) ?_
      refine ev_goto (tgt := 18) d_M_in_14 rfl ?_
      exact ev_ret (r := some (vI (1 : Int32))) d_M_in_18 rfl ⟨rfl, by decide⟩ K
abbrev fp_M_isIn (σ : ST) (a0 : Int32) (a1 : Int32) : Prop := ((isr a0 a1) &&& (1 : Int32)) = (1 : Int32)
theorem f_M_isIn {d : Nat} {σ : ST} {a0 : Int32} {a1 : Int32} {post : Option AV → ST → Prop} (K : post (some (vI (bi (fp_M_isIn σ a0 a1)))) σ) : Ev none d m_M_isIn 0 [some (vI a0), some (vI a1)] [] σ post := by
  unfold fp_M_isIn at K
  refine ev_iload_n d_M_isIn_0 rfl rfl ?_
  refine ev_iload_n d_M_isIn_1 rfl rfl ?_
  refine ev_ishr d_M_isIn_2 ?_
  refine ev_iconst (v := 1) d_M_isIn_3 (by decide) ?_
  refine ev_iand d_M_isIn_4 ?_
  refine ev_iconst (v := 1) d_M_isIn_5 (by decide) ?_
  refine ev_icmp_ne (tgt := 13) d_M_isIn_6 rfl (fun h1 => ?_) (fun h1 => ?_)
  · rw [bi_f h1] at K
    refine ev_iconst (v := 0) d_M_isIn_13 (by decide) ?_
    exact ev_ret (r := some (vI (0 : Int32))) d_M_isIn_14 rfl ⟨rfl, by decide⟩ K
  · rw [bi_t h1] at K
    refine ev_iconst (v := 1) d_M_isIn_9 (by decide) ?_
    refine ev_goto (tgt := 14) d_M_isIn_10 rfl ?_
    exact ev_ret (r := some (vI (1 : Int32))) d_M_isIn_14 rfl ⟨rfl, by decide⟩ K
def fn_M_no (σ : ST) (a0 : Int32) : Int64 := (-9223372036854775808 : Int64) - (Int32.toInt64 a0)
theorem f_M_no {d : Nat} {σ : ST} {a0 : Int32} {post : Option AV → ST → Prop} (K : post (some (vJ (fn_M_no σ a0))) σ) : Ev none d m_M_no 0 [some (vI a0)] [] σ post := by
  unfold fn_M_no at K
  refine ev_ldc2 d_M_no_0 cn_M_74 ?_
  refine ev_iload_n d_M_no_3 rfl rfl ?_
  refine ev_i2l d_M_no_4 ?_
  refine ev_lsub d_M_no_5 ?_
  exact ev_ret (r := some (vJ ((-9223372036854775808 : Int64) - (Int32.toInt64 a0)))) d_M_no_6 rfl rfl K
def fn_O_fault (σ : ST)  : Int32 := fn_B_faultPlace σ
theorem f_O_fault {d : Nat} {σ : ST}  {post : Option AV → ST → Prop} (K : post (some (vI (fn_O_fault σ))) σ) : Ev none (d + 1) m_O_fault 0 [some (vR 0 0)] [] σ post := by
  unfold fn_O_fault at K
  refine ev_aload_n d_O_fault_0 rfl rfl ?_
  refine ev_getR gf_O_10 rfl (by decide) d_O_fault_1 ?_
  refine ev_callV (as := []) (st := []) (k := 1) (i := 0) g_B_faultPlace ml_O_101 rfl rfl (by decide) (by decide) d_O_fault_4 rfl rfl (Nat.le_of_ble_eq_true rfl) rfl (Nat.le_of_ble_eq_true rfl) ?_
  refine f_B_faultPlace  ?_
  show Ev none (d + 1) m_O_fault 7 [some (vR 0 0)] [vI (fn_B_faultPlace σ)] σ post
  exact ev_ret (r := some (vI (fn_B_faultPlace σ))) d_O_fault_7 rfl rfl K
def fn_O_findingAt (σ : ST) (i0 : Nat) (a1 : Int32) (a2 : Int32) : Int32 := if (fn_H_isLost σ i0) = 0 then (if (fn_H_form σ i0) = a1 then (if fp_H_spans σ i0 a2 (1 : Int32) then (0 : Int32) else (2 : Int32)) else (3 : Int32)) else (1 : Int32)
def fs_O_findingAt (σ : ST) (i0 : Nat) (a1 : Int32) (a2 : Int32) : Prop := fs_H_isLost σ i0
theorem f_O_findingAt {d : Nat} {σ : ST} {i0 : Nat} {a1 : Int32} {a2 : Int32} {post : Option AV → ST → Prop} (hi0 : i0 < 4) (KS : fs_O_findingAt σ i0 a1 a2) (K : post (some (vI (fn_O_findingAt σ i0 a1 a2))) σ) : Ev none (d + 1) m_O_findingAt 0 [some (vR 10 i0), some (vI a1), some (vI a2)] [] σ post := by
  unfold fn_O_findingAt at K
  unfold fs_O_findingAt at KS
  have q1 := KS
  refine ev_aload_n d_O_findingAt_0 rfl rfl ?_
  refine ev_callV (as := []) (st := []) (k := 10) (i := i0) g_H_isLost ml_O_140 rfl rfl (by decide) hi0 d_O_findingAt_1 rfl rfl (Nat.le_of_ble_eq_true rfl) rfl (Nat.le_of_ble_eq_true rfl) ?_
  refine f_H_isLost hi0 q1 ?_
  show Ev none (d + 1) m_O_findingAt 4 [some (vR 10 i0), some (vI a1), some (vI a2)] [vI (fn_H_isLost σ i0)] σ post
  refine ev_if_eq (tgt := 9) d_O_findingAt_4 rfl (fun h2 => ?_) (fun h2 => ?_)
  · rw [if_pos h2] at K
    refine ev_aload_n d_O_findingAt_9 rfl rfl ?_
    refine ev_callV (as := []) (st := []) (k := 10) (i := i0) g_H_form ml_O_287 rfl rfl (by decide) hi0 d_O_findingAt_10 rfl rfl (Nat.le_of_ble_eq_true rfl) rfl (Nat.le_of_ble_eq_true rfl) ?_
    refine f_H_form hi0 ?_
    show Ev none (d + 1) m_O_findingAt 13 [some (vR 10 i0), some (vI a1), some (vI a2)] [vI (fn_H_form σ i0)] σ post
    refine ev_iload_n d_O_findingAt_13 rfl rfl ?_
    refine ev_icmp_eq (tgt := 19) d_O_findingAt_14 rfl (fun h3 => ?_) (fun h3 => ?_)
    · rw [if_pos h3] at K
      refine ev_aload_n d_O_findingAt_19 rfl rfl ?_
      refine ev_iload_n d_O_findingAt_20 rfl rfl ?_
      refine ev_iconst (v := 1) d_O_findingAt_21 (by decide) ?_
      refine ev_callV (as := [vI a2, vI (1 : Int32)]) (st := []) (k := 10) (i := i0) g_H_spans ml_O_290 rfl rfl (by decide) hi0 d_O_findingAt_22 rfl rfl (Nat.le_of_ble_eq_true rfl) rfl (Nat.le_of_ble_eq_true rfl) ?_
      refine f_H_spans hi0 ?_
      show Ev none (d + 1) m_O_findingAt 25 [some (vR 10 i0), some (vI a1), some (vI a2)] [vI (bi (fp_H_spans σ i0 a2 (1 : Int32)))] σ post
      refine ev_ifb_eq (tgt := 32) d_O_findingAt_25 rfl (fun h4 => ?_) (fun h4 => ?_)
      · rw [if_neg h4] at K
        refine ev_iconst (v := 2) d_O_findingAt_32 (by decide) ?_
        exact ev_ret (r := some (vI (2 : Int32))) d_O_findingAt_33 rfl rfl K
      · rw [if_pos h4] at K
        refine ev_iconst (v := 0) d_O_findingAt_28 (by decide) ?_
        refine ev_goto (tgt := 33) d_O_findingAt_29 rfl ?_
        exact ev_ret (r := some (vI (0 : Int32))) d_O_findingAt_33 rfl rfl K
    · rw [if_neg h3] at K
      refine ev_iconst (v := 3) d_O_findingAt_17 (by decide) ?_
      exact ev_ret (r := some (vI (3 : Int32))) d_O_findingAt_18 rfl rfl K
  · rw [if_neg h2] at K
    refine ev_iconst (v := 1) d_O_findingAt_7 (by decide) ?_
    exact ev_ret (r := some (vI (1 : Int32))) d_O_findingAt_8 rfl rfl K
abbrev fp_O_isChapter (σ : ST) (a1 : Int32) : Prop := fp_O_within σ a1 (0 : Int32) ((fn_B_chapters σ) - (1 : Int32))
theorem f_O_isChapter {d : Nat} {σ : ST} {a1 : Int32} {post : Option AV → ST → Prop} (K : post (some (vI (bi (fp_O_isChapter σ a1)))) σ) : Ev none (d + 1) m_O_isChapter 0 [some (vR 0 0), some (vI a1)] [] σ post := by
  unfold fp_O_isChapter at K
  refine ev_iload_n d_O_isChapter_0 rfl rfl ?_
  refine ev_iconst (v := 0) d_O_isChapter_1 (by decide) ?_
  refine ev_aload_n d_O_isChapter_2 rfl rfl ?_
  refine ev_getR gf_O_10 rfl (by decide) d_O_isChapter_3 ?_
  refine ev_callV (as := []) (st := [vI (0 : Int32), vI a1]) (k := 1) (i := 0) g_B_chapters ml_O_297 rfl rfl (by decide) (by decide) d_O_isChapter_6 rfl rfl (Nat.le_of_ble_eq_true rfl) rfl (Nat.le_of_ble_eq_true rfl) ?_
  refine f_B_chapters  ?_
  show Ev none (d + 1) m_O_isChapter 9 [some (vR 0 0), some (vI a1)] [vI (fn_B_chapters σ), vI (0 : Int32), vI a1] σ post
  refine ev_iconst (v := 1) d_O_isChapter_9 (by decide) ?_
  refine ev_isub d_O_isChapter_10 ?_
  refine ev_callS (as := [vI a1, vI (0 : Int32), vI ((fn_B_chapters σ) - (1 : Int32))]) (st := []) g_O_within ml_O_86 d_O_isChapter_11 rfl rfl (Nat.le_of_ble_eq_true rfl) rfl (Nat.le_of_ble_eq_true rfl) ?_
  refine f_O_within  ?_
  show Ev none (d + 1) m_O_isChapter 14 [some (vR 0 0), some (vI a1)] [vI (bi (fp_O_within σ a1 (0 : Int32) ((fn_B_chapters σ) - (1 : Int32))))] σ post
  exact ev_ret (r := some (vI (bi (fp_O_within σ a1 (0 : Int32) ((fn_B_chapters σ) - (1 : Int32)))))) d_O_isChapter_14 rfl ⟨rfl, bi_01 _⟩ K
abbrev fp_O_isCompany (σ : ST) (a0 : Int32) : Prop := fp_O_within σ a0 (1 : Int32) (63 : Int32)
theorem f_O_isCompany {d : Nat} {σ : ST} {a0 : Int32} {post : Option AV → ST → Prop} (K : post (some (vI (bi (fp_O_isCompany σ a0)))) σ) : Ev none (d + 1) m_O_isCompany 0 [some (vI a0)] [] σ post := by
  unfold fp_O_isCompany at K
  refine ev_iload_n d_O_isCompany_0 rfl rfl ?_
  refine ev_iconst (v := 1) d_O_isCompany_1 (by decide) ?_
  refine ev_bipush (v := 63) d_O_isCompany_2 (by decide) ?_
  refine ev_callS (as := [vI a0, vI (1 : Int32), vI (63 : Int32)]) (st := []) g_O_within ml_O_86 d_O_isCompany_4 rfl rfl (Nat.le_of_ble_eq_true rfl) rfl (Nat.le_of_ble_eq_true rfl) ?_
  refine f_O_within  ?_
  show Ev none (d + 1) m_O_isCompany 7 [some (vI a0)] [vI (bi (fp_O_within σ a0 (1 : Int32) (63 : Int32)))] σ post
  exact ev_ret (r := some (vI (bi (fp_O_within σ a0 (1 : Int32) (63 : Int32))))) d_O_isCompany_7 rfl ⟨rfl, bi_01 _⟩ K
abbrev fp_O_isForm (σ : ST) (a0 : Int32) : Prop := fp_O_within σ a0 (0 : Int32) (2 : Int32)
theorem f_O_isForm {d : Nat} {σ : ST} {a0 : Int32} {post : Option AV → ST → Prop} (K : post (some (vI (bi (fp_O_isForm σ a0)))) σ) : Ev none (d + 1) m_O_isForm 0 [some (vI a0)] [] σ post := by
  unfold fp_O_isForm at K
  refine ev_iload_n d_O_isForm_0 rfl rfl ?_
  refine ev_iconst (v := 0) d_O_isForm_1 (by decide) ?_
  refine ev_iconst (v := 2) d_O_isForm_2 (by decide) ?_
  refine ev_callS (as := [vI a0, vI (0 : Int32), vI (2 : Int32)]) (st := []) g_O_within ml_O_86 d_O_isForm_3 rfl rfl (Nat.le_of_ble_eq_true rfl) rfl (Nat.le_of_ble_eq_true rfl) ?_
  refine f_O_within  ?_
  show Ev none (d + 1) m_O_isForm 6 [some (vI a0)] [vI (bi (fp_O_within σ a0 (0 : Int32) (2 : Int32)))] σ post
  exact ev_ret (r := some (vI (bi (fp_O_within σ a0 (0 : Int32) (2 : Int32))))) d_O_isForm_6 rfl ⟨rfl, bi_01 _⟩ K
abbrev fp_O_isKind (σ : ST) (a0 : Int32) : Prop := fp_O_within σ a0 (0 : Int32) (2 : Int32)
theorem f_O_isKind {d : Nat} {σ : ST} {a0 : Int32} {post : Option AV → ST → Prop} (K : post (some (vI (bi (fp_O_isKind σ a0)))) σ) : Ev none (d + 1) m_O_isKind 0 [some (vI a0)] [] σ post := by
  unfold fp_O_isKind at K
  refine ev_iload_n d_O_isKind_0 rfl rfl ?_
  refine ev_iconst (v := 0) d_O_isKind_1 (by decide) ?_
  refine ev_iconst (v := 2) d_O_isKind_2 (by decide) ?_
  refine ev_callS (as := [vI a0, vI (0 : Int32), vI (2 : Int32)]) (st := []) g_O_within ml_O_86 d_O_isKind_3 rfl rfl (Nat.le_of_ble_eq_true rfl) rfl (Nat.le_of_ble_eq_true rfl) ?_
  refine f_O_within  ?_
  show Ev none (d + 1) m_O_isKind 6 [some (vI a0)] [vI (bi (fp_O_within σ a0 (0 : Int32) (2 : Int32)))] σ post
  exact ev_ret (r := some (vI (bi (fp_O_within σ a0 (0 : Int32) (2 : Int32))))) d_O_isKind_6 rfl ⟨rfl, bi_01 _⟩ K
abbrev fp_O_isReader (σ : ST) (a0 : Int32) : Prop := fp_O_within σ a0 (0 : Int32) (5 : Int32)
theorem f_O_isReader {d : Nat} {σ : ST} {a0 : Int32} {post : Option AV → ST → Prop} (K : post (some (vI (bi (fp_O_isReader σ a0)))) σ) : Ev none (d + 1) m_O_isReader 0 [some (vI a0)] [] σ post := by
  unfold fp_O_isReader at K
  refine ev_iload_n d_O_isReader_0 rfl rfl ?_
  refine ev_iconst (v := 0) d_O_isReader_1 (by decide) ?_
  refine ev_iconst (v := 5) d_O_isReader_2 (by decide) ?_
  refine ev_callS (as := [vI a0, vI (0 : Int32), vI (5 : Int32)]) (st := []) g_O_within ml_O_86 d_O_isReader_3 rfl rfl (Nat.le_of_ble_eq_true rfl) rfl (Nat.le_of_ble_eq_true rfl) ?_
  refine f_O_within  ?_
  show Ev none (d + 1) m_O_isReader 6 [some (vI a0)] [vI (bi (fp_O_within σ a0 (0 : Int32) (5 : Int32)))] σ post
  exact ev_ret (r := some (vI (bi (fp_O_within σ a0 (0 : Int32) (5 : Int32))))) d_O_isReader_6 rfl ⟨rfl, bi_01 _⟩ K
abbrev fp_O_isSheet (σ : ST) (a0 : Int32) : Prop := fp_O_within σ a0 (0 : Int32) (3 : Int32)
theorem f_O_isSheet {d : Nat} {σ : ST} {a0 : Int32} {post : Option AV → ST → Prop} (K : post (some (vI (bi (fp_O_isSheet σ a0)))) σ) : Ev none (d + 1) m_O_isSheet 0 [some (vI a0)] [] σ post := by
  unfold fp_O_isSheet at K
  refine ev_iload_n d_O_isSheet_0 rfl rfl ?_
  refine ev_iconst (v := 0) d_O_isSheet_1 (by decide) ?_
  refine ev_iconst (v := 3) d_O_isSheet_2 (by decide) ?_
  refine ev_callS (as := [vI a0, vI (0 : Int32), vI (3 : Int32)]) (st := []) g_O_within ml_O_86 d_O_isSheet_3 rfl rfl (Nat.le_of_ble_eq_true rfl) rfl (Nat.le_of_ble_eq_true rfl) ?_
  refine f_O_within  ?_
  show Ev none (d + 1) m_O_isSheet 6 [some (vI a0)] [vI (bi (fp_O_within σ a0 (0 : Int32) (3 : Int32)))] σ post
  exact ev_ret (r := some (vI (bi (fp_O_within σ a0 (0 : Int32) (3 : Int32))))) d_O_isSheet_6 rfl ⟨rfl, bi_01 _⟩ K
def fn_O_mixPlan (σ : ST) (a1 : Int64) : Int64 := fn_O_mix σ (fn_O_mix σ (fn_O_mix σ a1 (Int32.toInt64 (fn_P_lines σ))) (Int32.toInt64 (fn_P_waits σ))) (Int32.toInt64 (fn_P_minutes σ))
theorem f_O_mixPlan {d : Nat} {σ : ST} {a1 : Int64} {post : Option AV → ST → Prop} (K : post (some (vJ (fn_O_mixPlan σ a1))) σ) : Ev none (d + 1) m_O_mixPlan 0 [some (vR 0 0), some (vJ a1), none, none, none] [] σ post := by
  unfold fn_O_mixPlan at K
  refine ev_lload_n d_O_mixPlan_0 rfl rfl ?_
  refine ev_aload_n d_O_mixPlan_1 rfl rfl ?_
  refine ev_getR gf_O_37 rfl (by decide) d_O_mixPlan_2 ?_
  refine ev_callV (as := []) (st := [vJ a1]) (k := 5) (i := 0) g_P_lines ml_O_205 rfl rfl (by decide) (by decide) d_O_mixPlan_5 rfl rfl (Nat.le_of_ble_eq_true rfl) rfl (Nat.le_of_ble_eq_true rfl) ?_
  refine f_P_lines  ?_
  show Ev none (d + 1) m_O_mixPlan 8 [some (vR 0 0), some (vJ a1), none, none, none] [vI (fn_P_lines σ), vJ a1] σ post
  refine ev_i2l d_O_mixPlan_8 ?_
  refine ev_callS (as := [vJ a1, vJ (Int32.toInt64 (fn_P_lines σ))]) (st := []) g_O_mix ml_O_312 d_O_mixPlan_9 rfl rfl (Nat.le_of_ble_eq_true rfl) rfl (Nat.le_of_ble_eq_true rfl) ?_
  refine f_O_mix  ?_
  show Ev none (d + 1) m_O_mixPlan 12 [some (vR 0 0), some (vJ a1), none, none, none] [vJ (fn_O_mix σ a1 (Int32.toInt64 (fn_P_lines σ)))] σ post
  refine ev_lstore_n (L' := [some (vR 0 0), some (vJ a1), none, some (vJ (fn_O_mix σ a1 (Int32.toInt64 (fn_P_lines σ)))), none]) d_O_mixPlan_12 rfl (by decide) rfl ?_
  refine ev_lload_n d_O_mixPlan_13 rfl rfl ?_
  refine ev_aload_n d_O_mixPlan_14 rfl rfl ?_
  refine ev_getR gf_O_37 rfl (by decide) d_O_mixPlan_15 ?_
  refine ev_callV (as := []) (st := [vJ (fn_O_mix σ a1 (Int32.toInt64 (fn_P_lines σ)))]) (k := 5) (i := 0) g_P_waits ml_O_208 rfl rfl (by decide) (by decide) d_O_mixPlan_18 rfl rfl (Nat.le_of_ble_eq_true rfl) rfl (Nat.le_of_ble_eq_true rfl) ?_
  refine f_P_waits  ?_
  show Ev none (d + 1) m_O_mixPlan 21 [some (vR 0 0), some (vJ a1), none, some (vJ (fn_O_mix σ a1 (Int32.toInt64 (fn_P_lines σ)))), none] [vI (fn_P_waits σ), vJ (fn_O_mix σ a1 (Int32.toInt64 (fn_P_lines σ)))] σ post
  refine ev_i2l d_O_mixPlan_21 ?_
  refine ev_callS (as := [vJ (fn_O_mix σ a1 (Int32.toInt64 (fn_P_lines σ))), vJ (Int32.toInt64 (fn_P_waits σ))]) (st := []) g_O_mix ml_O_312 d_O_mixPlan_22 rfl rfl (Nat.le_of_ble_eq_true rfl) rfl (Nat.le_of_ble_eq_true rfl) ?_
  refine f_O_mix  ?_
  show Ev none (d + 1) m_O_mixPlan 25 [some (vR 0 0), some (vJ a1), none, some (vJ (fn_O_mix σ a1 (Int32.toInt64 (fn_P_lines σ)))), none] [vJ (fn_O_mix σ (fn_O_mix σ a1 (Int32.toInt64 (fn_P_lines σ))) (Int32.toInt64 (fn_P_waits σ)))] σ post
  refine ev_lstore_n (L' := [some (vR 0 0), some (vJ a1), none, some (vJ (fn_O_mix σ (fn_O_mix σ a1 (Int32.toInt64 (fn_P_lines σ))) (Int32.toInt64 (fn_P_waits σ)))), none]) d_O_mixPlan_25 rfl (by decide) rfl ?_
  refine ev_lload_n d_O_mixPlan_26 rfl rfl ?_
  refine ev_aload_n d_O_mixPlan_27 rfl rfl ?_
  refine ev_getR gf_O_37 rfl (by decide) d_O_mixPlan_28 ?_
  refine ev_callV (as := []) (st := [vJ (fn_O_mix σ (fn_O_mix σ a1 (Int32.toInt64 (fn_P_lines σ))) (Int32.toInt64 (fn_P_waits σ)))]) (k := 5) (i := 0) g_P_minutes ml_O_211 rfl rfl (by decide) (by decide) d_O_mixPlan_31 rfl rfl (Nat.le_of_ble_eq_true rfl) rfl (Nat.le_of_ble_eq_true rfl) ?_
  refine f_P_minutes  ?_
  show Ev none (d + 1) m_O_mixPlan 34 [some (vR 0 0), some (vJ a1), none, some (vJ (fn_O_mix σ (fn_O_mix σ a1 (Int32.toInt64 (fn_P_lines σ))) (Int32.toInt64 (fn_P_waits σ)))), none] [vI (fn_P_minutes σ), vJ (fn_O_mix σ (fn_O_mix σ a1 (Int32.toInt64 (fn_P_lines σ))) (Int32.toInt64 (fn_P_waits σ)))] σ post
  refine ev_i2l d_O_mixPlan_34 ?_
  refine ev_callS (as := [vJ (fn_O_mix σ (fn_O_mix σ a1 (Int32.toInt64 (fn_P_lines σ))) (Int32.toInt64 (fn_P_waits σ))), vJ (Int32.toInt64 (fn_P_minutes σ))]) (st := []) g_O_mix ml_O_312 d_O_mixPlan_35 rfl rfl (Nat.le_of_ble_eq_true rfl) rfl (Nat.le_of_ble_eq_true rfl) ?_
  refine f_O_mix  ?_
  show Ev none (d + 1) m_O_mixPlan 38 [some (vR 0 0), some (vJ a1), none, some (vJ (fn_O_mix σ (fn_O_mix σ a1 (Int32.toInt64 (fn_P_lines σ))) (Int32.toInt64 (fn_P_waits σ)))), none] [vJ (fn_O_mix σ (fn_O_mix σ (fn_O_mix σ a1 (Int32.toInt64 (fn_P_lines σ))) (Int32.toInt64 (fn_P_waits σ))) (Int32.toInt64 (fn_P_minutes σ)))] σ post
  exact ev_ret (r := some (vJ (fn_O_mix σ (fn_O_mix σ (fn_O_mix σ a1 (Int32.toInt64 (fn_P_lines σ))) (Int32.toInt64 (fn_P_waits σ))) (Int32.toInt64 (fn_P_minutes σ))))) d_O_mixPlan_38 rfl rfl K
abbrev fp_B_goesOn (σ : ST) (a1 : Int32) : Prop := (((irm a1 (4 : Int32)) = 0) ∧ (¬ ((fn_B_kindAt σ a1) = (-1 : Int32)))) ∨ (¬ ((irm a1 (4 : Int32)) = 0) ∧ ((((irm a1 (4 : Int32)) = 3) ∧ ((σ.1 12 0 (a1.toNatClampNeg)) = (59 : Int32))) ∨ (¬ ((irm a1 (4 : Int32)) = 3) ∧ (¬ ((fn_B_figureAt σ a1) = (-1 : Int32))))))
def fs_B_goesOn (σ : ST) (a1 : Int32) : Prop := (((irm a1 (4 : Int32)) = 0) → (fs_B_kindAt σ a1)) ∧ (¬ ((irm a1 (4 : Int32)) = 0) → ((((irm a1 (4 : Int32)) = 3) → (vp_in a1 60)) ∧ (¬ ((irm a1 (4 : Int32)) = 3) → (fs_B_figureAt σ a1))))
theorem f_B_goesOn {d : Nat} {σ : ST} {a1 : Int32} {post : Option AV → ST → Prop} (KS : fs_B_goesOn σ a1) (K : post (some (vI (bi (fp_B_goesOn σ a1)))) σ) : Ev none (d + 1) m_B_goesOn 0 [some (vR 1 0), some (vI a1)] [] σ post := by
  unfold fp_B_goesOn at K
  unfold fs_B_goesOn at KS
  refine ev_iload_n d_B_goesOn_0 rfl rfl ?_
  refine ev_iconst (v := 4) d_B_goesOn_1 (by decide) ?_
  refine ev_irem d_B_goesOn_2 (by decide) ?_
  by_cases h1 : (irm a1 (4 : Int32)) = 0
  · replace KS := KS.1 h1
    rw [b7t h1] at K
    have q2 := KS
    refine ev_lookup (off := 25) (tgt := 28) d_B_goesOn_3 (by decide) (by rw [h1]; decide) rfl ?_
    refine ev_aload_n d_B_goesOn_28 rfl rfl ?_
    refine ev_iload_n d_B_goesOn_29 rfl rfl ?_
    refine ev_callV (as := [vI a1]) (st := []) (k := 1) (i := 0) g_B_kindAt ml_B_38 rfl rfl (by decide) (by decide) d_B_goesOn_30 rfl rfl (Nat.le_of_ble_eq_true rfl) rfl (Nat.le_of_ble_eq_true rfl) ?_
    refine f_B_kindAt q2 ?_
    show Ev none (d + 1) m_B_goesOn 33 [some (vR 1 0), some (vI a1)] [vI (fn_B_kindAt σ a1)] σ post
    refine ev_iconst (v := -1) d_B_goesOn_33 (by decide) ?_
    refine ev_icmp_eq (tgt := 41) d_B_goesOn_34 rfl (fun h6 => ?_) (fun h6 => ?_)
    · rw [bi_f (not_not_intro h6)] at K
      refine ev_iconst (v := 0) d_B_goesOn_41 (by decide) ?_
      exact ev_ret (r := some (vI (0 : Int32))) d_B_goesOn_42 rfl ⟨rfl, by decide⟩ K
    · rw [bi_t h6] at K
      refine ev_iconst (v := 1) d_B_goesOn_37 (by decide) ?_
      refine ev_goto (tgt := 42) d_B_goesOn_38 rfl ?_
      exact ev_ret (r := some (vI (1 : Int32))) d_B_goesOn_42 rfl ⟨rfl, by decide⟩ K
  · replace KS := KS.2 h1
    rw [b7f h1] at K
    by_cases h3 : (irm a1 (4 : Int32)) = 3
    · replace KS := KS.1 h3
      rw [b7t h3] at K
      have q4 := KS
      refine ev_lookup (off := 40) (tgt := 43) d_B_goesOn_3 (by decide) (by rw [h3]; decide) rfl ?_
      refine ev_aload_n d_B_goesOn_43 rfl rfl ?_
      refine ev_getR gf_B_11 rfl (by decide) d_B_goesOn_44 ?_
      refine ev_iload_n d_B_goesOn_47 rfl rfl ?_
      refine ev_iald rfl (by decide) (by decide) q4 d_B_goesOn_48 ?_
      refine ev_bipush (v := 59) d_B_goesOn_49 (by decide) ?_
      refine ev_icmp_ne (tgt := 58) d_B_goesOn_51 rfl (fun h7 => ?_) (fun h7 => ?_)
      · rw [bi_f h7] at K
        refine ev_iconst (v := 0) d_B_goesOn_58 (by decide) ?_
        exact ev_ret (r := some (vI (0 : Int32))) d_B_goesOn_59 rfl ⟨rfl, by decide⟩ K
      · rw [bi_t h7] at K
        refine ev_iconst (v := 1) d_B_goesOn_54 (by decide) ?_
        refine ev_goto (tgt := 59) d_B_goesOn_55 rfl ?_
        exact ev_ret (r := some (vI (1 : Int32))) d_B_goesOn_59 rfl ⟨rfl, by decide⟩ K
    · replace KS := KS.2 h3
      rw [b7f h3] at K
      have q5 := KS
      refine ev_lookup (off := 57) (tgt := 60) d_B_goesOn_3 (by decide) (by show Op.lookupswitch.offset [(0, 25), (3, 40)] 57 _ = _; rw [lv_osw (a := 0) h1 (by decide), lv_osw (a := 3) h3 (by decide)]; rfl) rfl ?_
      refine ev_aload_n d_B_goesOn_60 rfl rfl ?_
      refine ev_iload_n d_B_goesOn_61 rfl rfl ?_
      refine ev_callV (as := [vI a1]) (st := []) (k := 1) (i := 0) g_B_figureAt ml_B_42 rfl rfl (by decide) (by decide) d_B_goesOn_62 rfl rfl (Nat.le_of_ble_eq_true rfl) rfl (Nat.le_of_ble_eq_true rfl) ?_
      refine f_B_figureAt q5 ?_
      show Ev none (d + 1) m_B_goesOn 65 [some (vR 1 0), some (vI a1)] [vI (fn_B_figureAt σ a1)] σ post
      refine ev_iconst (v := -1) d_B_goesOn_65 (by decide) ?_
      refine ev_icmp_eq (tgt := 73) d_B_goesOn_66 rfl (fun h8 => ?_) (fun h8 => ?_)
      · rw [bi_f (not_not_intro h8)] at K
        refine ev_iconst (v := 0) d_B_goesOn_73 (by decide) ?_
        exact ev_ret (r := some (vI (0 : Int32))) d_B_goesOn_74 rfl ⟨rfl, by decide⟩ K
      · rw [bi_t h8] at K
        refine ev_iconst (v := 1) d_B_goesOn_69 (by decide) ?_
        refine ev_goto (tgt := 74) d_B_goesOn_70 rfl ?_
        exact ev_ret (r := some (vI (1 : Int32))) d_B_goesOn_74 rfl ⟨rfl, by decide⟩ K
def fn_C_chapters (σ : ST)  : Int32 := fn_B_chapters σ
theorem f_C_chapters {d : Nat} {σ : ST}  {post : Option AV → ST → Prop} (K : post (some (vI (fn_C_chapters σ))) σ) : Ev none (d + 1) m_C_chapters 0 [some (vR 2 0)] [] σ post := by
  unfold fn_C_chapters at K
  refine ev_aload_n d_C_chapters_0 rfl rfl ?_
  refine ev_getR gf_C_21 rfl (by decide) d_C_chapters_1 ?_
  refine ev_callV (as := []) (st := []) (k := 1) (i := 0) g_B_chapters ml_C_26 rfl rfl (by decide) (by decide) d_C_chapters_4 rfl rfl (Nat.le_of_ble_eq_true rfl) rfl (Nat.le_of_ble_eq_true rfl) ?_
  refine f_B_chapters  ?_
  show Ev none (d + 1) m_C_chapters 7 [some (vR 2 0)] [vI (fn_B_chapters σ)] σ post
  exact ev_ret (r := some (vI (fn_B_chapters σ))) d_C_chapters_7 rfl rfl K
def fn_C_kindOf (σ : ST) (a1 : Int32) : Int32 := fn_B_kindOf σ a1
def fs_C_kindOf (σ : ST) (a1 : Int32) : Prop := fs_B_kindOf σ a1
theorem f_C_kindOf {d : Nat} {σ : ST} {a1 : Int32} {post : Option AV → ST → Prop} (KS : fs_C_kindOf σ a1) (K : post (some (vI (fn_C_kindOf σ a1))) σ) : Ev none (d + 1) m_C_kindOf 0 [some (vR 2 0), some (vI a1)] [] σ post := by
  unfold fn_C_kindOf at K
  unfold fs_C_kindOf at KS
  have q1 := KS
  refine ev_aload_n d_C_kindOf_0 rfl rfl ?_
  refine ev_getR gf_C_21 rfl (by decide) d_C_kindOf_1 ?_
  refine ev_iload_n d_C_kindOf_4 rfl rfl ?_
  refine ev_callV (as := [vI a1]) (st := []) (k := 1) (i := 0) g_B_kindOf ml_C_32 rfl rfl (by decide) (by decide) d_C_kindOf_5 rfl rfl (Nat.le_of_ble_eq_true rfl) rfl (Nat.le_of_ble_eq_true rfl) ?_
  refine f_B_kindOf q1 ?_
  show Ev none (d + 1) m_C_kindOf 8 [some (vR 2 0), some (vI a1)] [vI (fn_B_kindOf σ a1)] σ post
  exact ev_ret (r := some (vI (fn_B_kindOf σ a1))) d_C_kindOf_8 rfl rfl K
def fn_C_linesOf (σ : ST) (a1 : Int32) : Int32 := fn_B_linesOf σ a1
def fs_C_linesOf (σ : ST) (a1 : Int32) : Prop := fs_B_linesOf σ a1
theorem f_C_linesOf {d : Nat} {σ : ST} {a1 : Int32} {post : Option AV → ST → Prop} (KS : fs_C_linesOf σ a1) (K : post (some (vI (fn_C_linesOf σ a1))) σ) : Ev none (d + 1) m_C_linesOf 0 [some (vR 2 0), some (vI a1)] [] σ post := by
  unfold fn_C_linesOf at K
  unfold fs_C_linesOf at KS
  have q1 := KS
  refine ev_aload_n d_C_linesOf_0 rfl rfl ?_
  refine ev_getR gf_C_21 rfl (by decide) d_C_linesOf_1 ?_
  refine ev_iload_n d_C_linesOf_4 rfl rfl ?_
  refine ev_callV (as := [vI a1]) (st := []) (k := 1) (i := 0) g_B_linesOf ml_C_36 rfl rfl (by decide) (by decide) d_C_linesOf_5 rfl rfl (Nat.le_of_ble_eq_true rfl) rfl (Nat.le_of_ble_eq_true rfl) ?_
  refine f_B_linesOf q1 ?_
  show Ev none (d + 1) m_C_linesOf 8 [some (vR 2 0), some (vI a1)] [vI (fn_B_linesOf σ a1)] σ post
  exact ev_ret (r := some (vI (fn_B_linesOf σ a1))) d_C_linesOf_8 rfl rfl K
def fn_C_minutesAt (σ : ST) (a1 : Int32) (a2 : Int32) (a3 : Int32) : Int32 := if (1 : Int32) ≤ a3 then (if (fn_R_likes σ (a1.toNatClampNeg) a2) = 0 then ((((fn_B_linesOf σ a2) + a3) - (1 : Int32)) / a3) else ((2 : Int32) * ((((fn_B_linesOf σ a2) + a3) - (1 : Int32)) / a3))) else (0 : Int32)
def fs_C_minutesAt (σ : ST) (a1 : Int32) (a2 : Int32) (a3 : Int32) : Prop := (((1 : Int32) ≤ a3) → ((fs_B_linesOf σ a2) ∧ (¬ a3 = 0) ∧ (vp_in a1 6) ∧ (fs_R_likes σ (a1.toNatClampNeg) a2))) ∧ (¬ ((1 : Int32) ≤ a3) → True)
theorem f_C_minutesAt {d : Nat} {σ : ST} {a1 : Int32} {a2 : Int32} {a3 : Int32} {post : Option AV → ST → Prop} (KS : fs_C_minutesAt σ a1 a2 a3) (K : post (some (vI (fn_C_minutesAt σ a1 a2 a3))) σ) : Ev none (d + 1) m_C_minutesAt 0 [some (vR 2 0), some (vI a1), some (vI a2), some (vI a3), none] [] σ post := by
  unfold fn_C_minutesAt at K
  unfold fs_C_minutesAt at KS
  refine ev_iload_n d_C_minutesAt_0 rfl rfl ?_
  refine ev_iconst (v := 1) d_C_minutesAt_1 (by decide) ?_
  refine ev_icmp_ge (tgt := 7) d_C_minutesAt_2 rfl (fun h6 => ?_) (fun h6 => ?_)
  · replace KS := KS.1 h6
    rw [if_pos h6] at K
    obtain ⟨q1, q2, q3, q5⟩ := KS
    refine ev_aload_n d_C_minutesAt_7 rfl rfl ?_
    refine ev_getR gf_C_21 rfl (by decide) d_C_minutesAt_8 ?_
    refine ev_iload_n d_C_minutesAt_11 rfl rfl ?_
    refine ev_callV (as := [vI a2]) (st := []) (k := 1) (i := 0) g_B_linesOf ml_C_36 rfl rfl (by decide) (by decide) d_C_minutesAt_12 rfl rfl (Nat.le_of_ble_eq_true rfl) rfl (Nat.le_of_ble_eq_true rfl) ?_
    refine f_B_linesOf q1 ?_
    show Ev none (d + 1) m_C_minutesAt 15 [some (vR 2 0), some (vI a1), some (vI a2), some (vI a3), none] [vI (fn_B_linesOf σ a2)] σ post
    refine ev_iload_n d_C_minutesAt_15 rfl rfl ?_
    refine ev_iadd d_C_minutesAt_16 ?_
    refine ev_iconst (v := 1) d_C_minutesAt_17 (by decide) ?_
    refine ev_isub d_C_minutesAt_18 ?_
    refine ev_iload_n d_C_minutesAt_19 rfl rfl ?_
    refine ev_idiv d_C_minutesAt_20 q2 ?_
    refine ev_istore (L' := [some (vR 2 0), some (vI a1), some (vI a2), some (vI a3), some (vI ((((fn_B_linesOf σ a2) + a3) - (1 : Int32)) / a3))]) d_C_minutesAt_21 (by decide) rfl ?_
    refine ev_aload_n d_C_minutesAt_23 rfl rfl ?_
    refine ev_getR gf_C_11 rfl (by decide) d_C_minutesAt_24 ?_
    refine ev_iload_n d_C_minutesAt_27 rfl rfl ?_
    refine ev_aald3 rfl (by decide) (by decide) q3 d_C_minutesAt_28 ?_
    have b4 := ix_lt q3
    refine ev_iload_n d_C_minutesAt_29 rfl rfl ?_
    refine ev_callV (as := [vI a2]) (st := []) (k := 3) (i := (a1.toNatClampNeg)) g_R_likes ml_C_40 rfl rfl (by decide) b4 d_C_minutesAt_30 rfl rfl (Nat.le_of_ble_eq_true rfl) rfl (Nat.le_of_ble_eq_true rfl) ?_
    refine f_R_likes b4 q5 ?_
    show Ev none (d + 1) m_C_minutesAt 33 [some (vR 2 0), some (vI a1), some (vI a2), some (vI a3), some (vI ((((fn_B_linesOf σ a2) + a3) - (1 : Int32)) / a3))] [vI (fn_R_likes σ (a1.toNatClampNeg) a2)] σ post
    refine ev_if_eq (tgt := 43) d_C_minutesAt_33 rfl (fun h7 => ?_) (fun h7 => ?_)
    · rw [if_pos h7] at K
      refine ev_iload d_C_minutesAt_43 rfl ?_
      exact ev_ret (r := some (vI ((((fn_B_linesOf σ a2) + a3) - (1 : Int32)) / a3))) d_C_minutesAt_45 rfl rfl K
    · rw [if_neg h7] at K
      refine ev_iconst (v := 2) d_C_minutesAt_36 (by decide) ?_
      refine ev_iload d_C_minutesAt_37 rfl ?_
      refine ev_imul d_C_minutesAt_39 ?_
      refine ev_goto (tgt := 45) d_C_minutesAt_40 rfl ?_
      exact ev_ret (r := some (vI ((2 : Int32) * ((((fn_B_linesOf σ a2) + a3) - (1 : Int32)) / a3)))) d_C_minutesAt_45 rfl rfl K
  · replace KS := KS.2 h6
    rw [if_neg h6] at K
    refine ev_iconst (v := 0) d_C_minutesAt_5 (by decide) ?_
    exact ev_ret (r := some (vI (0 : Int32))) d_C_minutesAt_6 rfl rfl K
def fn_E_workLeft (σ : ST) (a1 : Int32) : Int32 := imax (0 : Int32) ((fn_R_work σ (fx_C_person σ a1)) - (σ.1 20 0 (a1.toNatClampNeg)))
def fs_E_workLeft (σ : ST) (a1 : Int32) : Prop := (fs_C_person σ a1) ∧ (vp_in a1 6)
theorem f_E_workLeft {d : Nat} {σ : ST} {a1 : Int32} {post : Option AV → ST → Prop} (KS : fs_E_workLeft σ a1) (K : post (some (vI (fn_E_workLeft σ a1))) σ) : Ev none (d + 1) m_E_workLeft 0 [some (vR 4 0), some (vI a1)] [] σ post := by
  unfold fn_E_workLeft at K
  unfold fs_E_workLeft at KS
  obtain ⟨q1, q2⟩ := KS
  refine ev_iconst (v := 0) d_E_workLeft_0 (by decide) ?_
  refine ev_aload_n d_E_workLeft_1 rfl rfl ?_
  refine ev_getR gf_E_25 rfl (by decide) d_E_workLeft_2 ?_
  refine ev_iload_n d_E_workLeft_5 rfl rfl ?_
  refine ev_callV (as := [vI a1]) (st := [vI (0 : Int32)]) (k := 2) (i := 0) g_C_person ml_E_53 rfl rfl (by decide) (by decide) d_E_workLeft_6 rfl rfl (Nat.le_of_ble_eq_true rfl) rfl (Nat.le_of_ble_eq_true rfl) ?_
  refine f_C_person q1 ?_
  show Ev none (d + 1) m_E_workLeft 9 [some (vR 4 0), some (vI a1)] [vR 3 (fx_C_person σ a1), vI (0 : Int32)] σ post
  refine ev_callV (as := []) (st := [vI (0 : Int32)]) (k := 3) (i := (fx_C_person σ a1)) g_R_work ml_E_57 rfl rfl (by decide) (fb_C_person q1) d_E_workLeft_9 rfl rfl (Nat.le_of_ble_eq_true rfl) rfl (Nat.le_of_ble_eq_true rfl) ?_
  refine f_R_work (fb_C_person q1) ?_
  show Ev none (d + 1) m_E_workLeft 12 [some (vR 4 0), some (vI a1)] [vI (fn_R_work σ (fx_C_person σ a1)), vI (0 : Int32)] σ post
  refine ev_aload_n d_E_workLeft_12 rfl rfl ?_
  refine ev_getR gf_E_9 rfl (by decide) d_E_workLeft_13 ?_
  refine ev_iload_n d_E_workLeft_16 rfl rfl ?_
  refine ev_iald rfl (by decide) (by decide) q2 d_E_workLeft_17 ?_
  refine ev_isub d_E_workLeft_18 ?_
  refine ev_mmax ml_E_62 (Nat.le_of_ble_eq_true rfl) d_E_workLeft_19 ?_
  exact ev_ret (r := some (vI (imax (0 : Int32) ((fn_R_work σ (fx_C_person σ a1)) - (σ.1 20 0 (a1.toNatClampNeg)))))) d_E_workLeft_22 rfl rfl K
def fn_T_waitWith (σ : ST) (a1 : Int32) (a2 : Int32) (a3 : Int32) : Int32 := (σ.1 29 0 ((((6 : Int32) * a2) + a3).toNatClampNeg)) + (σ.1 30 0 ((fn_T_without σ a1 a2 a3).toNatClampNeg))
def fs_T_waitWith (σ : ST) (a1 : Int32) (a2 : Int32) (a3 : Int32) : Prop := (vp_in (((6 : Int32) * a2) + a3) 36) ∧ (vp_in (fn_T_without σ a1 a2 a3) 64)
theorem f_T_waitWith {d : Nat} {σ : ST} {a1 : Int32} {a2 : Int32} {a3 : Int32} {post : Option AV → ST → Prop} (KS : fs_T_waitWith σ a1 a2 a3) (K : post (some (vI (fn_T_waitWith σ a1 a2 a3))) σ) : Ev none (d + 1) m_T_waitWith 0 [some (vR 7 0), some (vI a1), some (vI a2), some (vI a3)] [] σ post := by
  unfold fn_T_waitWith at K
  unfold fs_T_waitWith at KS
  obtain ⟨q1, q2⟩ := KS
  refine ev_aload_n d_T_waitWith_0 rfl rfl ?_
  refine ev_getR gf_T_9 rfl (by decide) d_T_waitWith_1 ?_
  refine ev_bipush (v := 6) d_T_waitWith_4 (by decide) ?_
  refine ev_iload_n d_T_waitWith_6 rfl rfl ?_
  refine ev_imul d_T_waitWith_7 ?_
  refine ev_iload_n d_T_waitWith_8 rfl rfl ?_
  refine ev_iadd d_T_waitWith_9 ?_
  refine ev_iald rfl (by decide) (by decide) q1 d_T_waitWith_10 ?_
  refine ev_aload_n d_T_waitWith_11 rfl rfl ?_
  refine ev_getR gf_T_15 rfl (by decide) d_T_waitWith_12 ?_
  refine ev_iload_n d_T_waitWith_15 rfl rfl ?_
  refine ev_iload_n d_T_waitWith_16 rfl rfl ?_
  refine ev_iload_n d_T_waitWith_17 rfl rfl ?_
  refine ev_callS (as := [vI a1, vI a2, vI a3]) (st := [vR 30 0, vI (σ.1 29 0 ((((6 : Int32) * a2) + a3).toNatClampNeg))]) g_T_without ml_T_50 d_T_waitWith_18 rfl rfl (Nat.le_of_ble_eq_true rfl) rfl (Nat.le_of_ble_eq_true rfl) ?_
  refine f_T_without  ?_
  show Ev none (d + 1) m_T_waitWith 21 [some (vR 7 0), some (vI a1), some (vI a2), some (vI a3)] [vI (fn_T_without σ a1 a2 a3), vR 30 0, vI (σ.1 29 0 ((((6 : Int32) * a2) + a3).toNatClampNeg))] σ post
  refine ev_iald rfl (by decide) (by decide) q2 d_T_waitWith_21 ?_
  refine ev_iadd d_T_waitWith_22 ?_
  exact ev_ret (r := some (vI ((σ.1 29 0 ((((6 : Int32) * a2) + a3).toNatClampNeg)) + (σ.1 30 0 ((fn_T_without σ a1 a2 a3).toNatClampNeg))))) d_T_waitWith_23 rfl rfl K
def fn_D_casesOf (σ : ST) (a0 : Int32) : Int64 := lsl (1 : Int64) ((2 : Int32) * (fn_J_bitCount σ a0))
theorem f_D_casesOf {d : Nat} {σ : ST} {a0 : Int32} {post : Option AV → ST → Prop} (K : post (some (vJ (fn_D_casesOf σ a0))) σ) : Ev none (d + 1) m_D_casesOf 0 [some (vI a0)] [] σ post := by
  unfold fn_D_casesOf at K
  refine ev_lconst (v := 1) d_D_casesOf_0 (by decide) ?_
  refine ev_iconst (v := 2) d_D_casesOf_1 (by decide) ?_
  refine ev_iload_n d_D_casesOf_2 rfl rfl ?_
  refine ev_callS (as := [vI a0]) (st := [vI (2 : Int32), vJ (1 : Int64)]) g_J_bitCount ml_D_82 d_D_casesOf_3 rfl rfl (Nat.le_of_ble_eq_true rfl) rfl (Nat.le_of_ble_eq_true rfl) ?_
  refine f_J_bitCount  ?_
  show Ev none (d + 1) m_D_casesOf 6 [some (vI a0)] [vI (fn_J_bitCount σ a0), vI (2 : Int32), vJ (1 : Int64)] σ post
  refine ev_imul d_D_casesOf_6 ?_
  refine ev_lshl d_D_casesOf_7 ?_
  exact ev_ret (r := some (vJ (lsl (1 : Int64) ((2 : Int32) * (fn_J_bitCount σ a0))))) d_D_casesOf_8 rfl rfl K
abbrev fp_M_isAnyChapter (σ : ST) (a0 : Int32) : Prop := fp_M_in σ (Int32.toInt64 a0) (0 : Int64) (7 : Int64)
theorem f_M_isAnyChapter {d : Nat} {σ : ST} {a0 : Int32} {post : Option AV → ST → Prop} (K : post (some (vI (bi (fp_M_isAnyChapter σ a0)))) σ) : Ev none (d + 1) m_M_isAnyChapter 0 [some (vI a0)] [] σ post := by
  unfold fp_M_isAnyChapter at K
  refine ev_iload_n d_M_isAnyChapter_0 rfl rfl ?_
  refine ev_i2l d_M_isAnyChapter_1 ?_
  refine ev_lconst (v := 0) d_M_isAnyChapter_2 (by decide) ?_
  refine ev_ldc2 d_M_isAnyChapter_3 cn_M_134 ?_
  refine ev_callS (as := [vJ (Int32.toInt64 a0), vJ (0 : Int64), vJ (7 : Int64)]) (st := []) g_M_in ml_M_76 d_M_isAnyChapter_6 rfl rfl (Nat.le_of_ble_eq_true rfl) rfl (Nat.le_of_ble_eq_true rfl) ?_
  refine f_M_in  ?_
  show Ev none (d + 1) m_M_isAnyChapter 9 [some (vI a0)] [vI (bi (fp_M_in σ (Int32.toInt64 a0) (0 : Int64) (7 : Int64)))] σ post
  exact ev_ret (r := some (vI (bi (fp_M_in σ (Int32.toInt64 a0) (0 : Int64) (7 : Int64))))) d_M_isAnyChapter_9 rfl ⟨rfl, bi_01 _⟩ K
abbrev fp_M_isRead (σ : ST) (a1 : Int32) : Prop := ¬ ((σ.1 11 0 8) ≤ a1) ∧ (¬ (fp_M_isIn σ (σ.1 11 0 11) a1))
theorem f_M_isRead {d : Nat} {σ : ST} {a1 : Int32} {post : Option AV → ST → Prop} (K : post (some (vI (bi (fp_M_isRead σ a1)))) σ) : Ev none (d + 1) m_M_isRead 0 [some (vR 11 0), some (vI a1)] [] σ post := by
  unfold fp_M_isRead at K
  refine ev_iload_n d_M_isRead_0 rfl rfl ?_
  refine ev_aload_n d_M_isRead_1 rfl rfl ?_
  refine ev_getI gf_M_113 rfl (by decide) d_M_isRead_2 ?_
  refine ev_icmp_ge (tgt := 23) d_M_isRead_5 rfl (fun h1 => ?_) (fun h1 => ?_)
  · rw [b5t h1] at K
    refine ev_iconst (v := 0) d_M_isRead_23 (by decide) ?_
    exact ev_ret (r := some (vI (0 : Int32))) d_M_isRead_24 rfl ⟨rfl, by decide⟩ K
  · rw [b5f h1] at K
    refine ev_aload_n d_M_isRead_8 rfl rfl ?_
    refine ev_getI gf_M_140 rfl (by decide) d_M_isRead_9 ?_
    refine ev_iload_n d_M_isRead_12 rfl rfl ?_
    refine ev_callS (as := [vI (σ.1 11 0 11), vI a1]) (st := []) g_M_isIn ml_M_169 d_M_isRead_13 rfl rfl (Nat.le_of_ble_eq_true rfl) rfl (Nat.le_of_ble_eq_true rfl) ?_
    refine f_M_isIn  ?_
    show Ev none (d + 1) m_M_isRead 16 [some (vR 11 0), some (vI a1)] [vI (bi (fp_M_isIn σ (σ.1 11 0 11) a1))] σ post
    refine ev_ifb_ne (tgt := 23) d_M_isRead_16 rfl (fun h2 => ?_) (fun h2 => ?_)
    · rw [bi_f (not_not_intro h2)] at K
      refine ev_iconst (v := 0) d_M_isRead_23 (by decide) ?_
      exact ev_ret (r := some (vI (0 : Int32))) d_M_isRead_24 rfl ⟨rfl, by decide⟩ K
    · rw [bi_t h2] at K
      refine ev_iconst (v := 1) d_M_isRead_19 (by decide) ?_
      refine ev_goto (tgt := 24) d_M_isRead_20 rfl ?_
      exact ev_ret (r := some (vI (1 : Int32))) d_M_isRead_24 rfl ⟨rfl, by decide⟩ K
abbrev fp_M_isReader (σ : ST) (a0 : Int32) : Prop := fp_M_in σ (Int32.toInt64 a0) (0 : Int64) (5 : Int64)
theorem f_M_isReader {d : Nat} {σ : ST} {a0 : Int32} {post : Option AV → ST → Prop} (K : post (some (vI (bi (fp_M_isReader σ a0)))) σ) : Ev none (d + 1) m_M_isReader 0 [some (vI a0)] [] σ post := by
  unfold fp_M_isReader at K
  refine ev_iload_n d_M_isReader_0 rfl rfl ?_
  refine ev_i2l d_M_isReader_1 ?_
  refine ev_lconst (v := 0) d_M_isReader_2 (by decide) ?_
  refine ev_ldc2 d_M_isReader_3 cn_M_136 ?_
  refine ev_callS (as := [vJ (Int32.toInt64 a0), vJ (0 : Int64), vJ (5 : Int64)]) (st := []) g_M_in ml_M_76 d_M_isReader_6 rfl rfl (Nat.le_of_ble_eq_true rfl) rfl (Nat.le_of_ble_eq_true rfl) ?_
  refine f_M_in  ?_
  show Ev none (d + 1) m_M_isReader 9 [some (vI a0)] [vI (bi (fp_M_in σ (Int32.toInt64 a0) (0 : Int64) (5 : Int64)))] σ post
  exact ev_ret (r := some (vI (bi (fp_M_in σ (Int32.toInt64 a0) (0 : Int64) (5 : Int64))))) d_M_isReader_9 rfl ⟨rfl, bi_01 _⟩ K
abbrev fp_M_isSheet (σ : ST) (a0 : Int32) : Prop := fp_M_in σ (Int32.toInt64 a0) (0 : Int64) (3 : Int64)
theorem f_M_isSheet {d : Nat} {σ : ST} {a0 : Int32} {post : Option AV → ST → Prop} (K : post (some (vI (bi (fp_M_isSheet σ a0)))) σ) : Ev none (d + 1) m_M_isSheet 0 [some (vI a0)] [] σ post := by
  unfold fp_M_isSheet at K
  refine ev_iload_n d_M_isSheet_0 rfl rfl ?_
  refine ev_i2l d_M_isSheet_1 ?_
  refine ev_lconst (v := 0) d_M_isSheet_2 (by decide) ?_
  refine ev_ldc2 d_M_isSheet_3 cn_M_84 ?_
  refine ev_callS (as := [vJ (Int32.toInt64 a0), vJ (0 : Int64), vJ (3 : Int64)]) (st := []) g_M_in ml_M_76 d_M_isSheet_6 rfl rfl (Nat.le_of_ble_eq_true rfl) rfl (Nat.le_of_ble_eq_true rfl) ?_
  refine f_M_in  ?_
  show Ev none (d + 1) m_M_isSheet 9 [some (vI a0)] [vI (bi (fp_M_in σ (Int32.toInt64 a0) (0 : Int64) (3 : Int64)))] σ post
  exact ev_ret (r := some (vI (bi (fp_M_in σ (Int32.toInt64 a0) (0 : Int64) (3 : Int64))))) d_M_isSheet_9 rfl ⟨rfl, bi_01 _⟩ K
abbrev fp_M_isSlow (σ : ST) (a0 : Int32) : Prop := fp_M_in σ (Int32.toInt64 a0) (0 : Int64) (3 : Int64)
theorem f_M_isSlow {d : Nat} {σ : ST} {a0 : Int32} {post : Option AV → ST → Prop} (K : post (some (vI (bi (fp_M_isSlow σ a0)))) σ) : Ev none (d + 1) m_M_isSlow 0 [some (vI a0)] [] σ post := by
  unfold fp_M_isSlow at K
  refine ev_iload_n d_M_isSlow_0 rfl rfl ?_
  refine ev_i2l d_M_isSlow_1 ?_
  refine ev_lconst (v := 0) d_M_isSlow_2 (by decide) ?_
  refine ev_ldc2 d_M_isSlow_3 cn_M_84 ?_
  refine ev_callS (as := [vJ (Int32.toInt64 a0), vJ (0 : Int64), vJ (3 : Int64)]) (st := []) g_M_in ml_M_76 d_M_isSlow_6 rfl rfl (Nat.le_of_ble_eq_true rfl) rfl (Nat.le_of_ble_eq_true rfl) ?_
  refine f_M_in  ?_
  show Ev none (d + 1) m_M_isSlow 9 [some (vI a0)] [vI (bi (fp_M_in σ (Int32.toInt64 a0) (0 : Int64) (3 : Int64)))] σ post
  exact ev_ret (r := some (vI (bi (fp_M_in σ (Int32.toInt64 a0) (0 : Int64) (3 : Int64))))) d_M_isSlow_9 rfl ⟨rfl, bi_01 _⟩ K
abbrev fp_M_isSome (σ : ST) (a0 : Int32) : Prop := fp_M_in σ (Int32.toInt64 a0) (1 : Int64) (63 : Int64)
theorem f_M_isSome {d : Nat} {σ : ST} {a0 : Int32} {post : Option AV → ST → Prop} (K : post (some (vI (bi (fp_M_isSome σ a0)))) σ) : Ev none (d + 1) m_M_isSome 0 [some (vI a0)] [] σ post := by
  unfold fp_M_isSome at K
  refine ev_iload_n d_M_isSome_0 rfl rfl ?_
  refine ev_i2l d_M_isSome_1 ?_
  refine ev_lconst (v := 1) d_M_isSome_2 (by decide) ?_
  refine ev_ldc2 d_M_isSome_3 cn_M_138 ?_
  refine ev_callS (as := [vJ (Int32.toInt64 a0), vJ (1 : Int64), vJ (63 : Int64)]) (st := []) g_M_in ml_M_76 d_M_isSome_6 rfl rfl (Nat.le_of_ble_eq_true rfl) rfl (Nat.le_of_ble_eq_true rfl) ?_
  refine f_M_in  ?_
  show Ev none (d + 1) m_M_isSome 9 [some (vI a0)] [vI (bi (fp_M_in σ (Int32.toInt64 a0) (1 : Int64) (63 : Int64)))] σ post
  exact ev_ret (r := some (vI (bi (fp_M_in σ (Int32.toInt64 a0) (1 : Int64) (63 : Int64))))) d_M_isSome_9 rfl ⟨rfl, bi_01 _⟩ K
abbrev fp_M_isTwo (σ : ST) (a0 : Int32) : Prop := fp_M_in σ (Int32.toInt64 a0) (0 : Int64) (1 : Int64)
theorem f_M_isTwo {d : Nat} {σ : ST} {a0 : Int32} {post : Option AV → ST → Prop} (K : post (some (vI (bi (fp_M_isTwo σ a0)))) σ) : Ev none (d + 1) m_M_isTwo 0 [some (vI a0)] [] σ post := by
  unfold fp_M_isTwo at K
  refine ev_iload_n d_M_isTwo_0 rfl rfl ?_
  refine ev_i2l d_M_isTwo_1 ?_
  refine ev_lconst (v := 0) d_M_isTwo_2 (by decide) ?_
  refine ev_lconst (v := 1) d_M_isTwo_3 (by decide) ?_
  refine ev_callS (as := [vJ (Int32.toInt64 a0), vJ (0 : Int64), vJ (1 : Int64)]) (st := []) g_M_in ml_M_76 d_M_isTwo_4 rfl rfl (Nat.le_of_ble_eq_true rfl) rfl (Nat.le_of_ble_eq_true rfl) ?_
  refine f_M_in  ?_
  show Ev none (d + 1) m_M_isTwo 7 [some (vI a0)] [vI (bi (fp_M_in σ (Int32.toInt64 a0) (0 : Int64) (1 : Int64)))] σ post
  exact ev_ret (r := some (vI (bi (fp_M_in σ (Int32.toInt64 a0) (0 : Int64) (1 : Int64))))) d_M_isTwo_7 rfl ⟨rfl, bi_01 _⟩ K
def fn_M_timeBy (σ : ST) (a1 : Int32) (a2 : Int32) (a3 : Int32) : Int32 := if fp_M_isIn σ (σ.1 50 0 (a1.toNatClampNeg)) a2 then ((2 : Int32) * ((((σ.1 48 0 (a2.toNatClampNeg)) + a3) - (1 : Int32)) / a3)) else ((((σ.1 48 0 (a2.toNatClampNeg)) + a3) - (1 : Int32)) / a3)
def fs_M_timeBy (σ : ST) (a1 : Int32) (a2 : Int32) (a3 : Int32) : Prop := (vp_in a2 8) ∧ (¬ a3 = 0) ∧ (vp_in a1 6)
theorem f_M_timeBy {d : Nat} {σ : ST} {a1 : Int32} {a2 : Int32} {a3 : Int32} {post : Option AV → ST → Prop} (KS : fs_M_timeBy σ a1 a2 a3) (K : post (some (vI (fn_M_timeBy σ a1 a2 a3))) σ) : Ev none (d + 1) m_M_timeBy 0 [some (vR 11 0), some (vI a1), some (vI a2), some (vI a3), none] [] σ post := by
  unfold fn_M_timeBy at K
  unfold fs_M_timeBy at KS
  obtain ⟨q1, q2, q3⟩ := KS
  refine ev_aload_n d_M_timeBy_0 rfl rfl ?_
  refine ev_getR gf_M_28 rfl (by decide) d_M_timeBy_1 ?_
  refine ev_iload_n d_M_timeBy_4 rfl rfl ?_
  refine ev_iald rfl (by decide) (by decide) q1 d_M_timeBy_5 ?_
  refine ev_iload_n d_M_timeBy_6 rfl rfl ?_
  refine ev_iadd d_M_timeBy_7 ?_
  refine ev_iconst (v := 1) d_M_timeBy_8 (by decide) ?_
  refine ev_isub d_M_timeBy_9 ?_
  refine ev_iload_n d_M_timeBy_10 rfl rfl ?_
  refine ev_idiv d_M_timeBy_11 q2 ?_
  refine ev_istore (L' := [some (vR 11 0), some (vI a1), some (vI a2), some (vI a3), some (vI ((((σ.1 48 0 (a2.toNatClampNeg)) + a3) - (1 : Int32)) / a3))]) d_M_timeBy_12 (by decide) rfl ?_
  refine ev_aload_n d_M_timeBy_14 rfl rfl ?_
  refine ev_getR gf_M_34 rfl (by decide) d_M_timeBy_15 ?_
  refine ev_iload_n d_M_timeBy_18 rfl rfl ?_
  refine ev_iald rfl (by decide) (by decide) q3 d_M_timeBy_19 ?_
  refine ev_iload_n d_M_timeBy_20 rfl rfl ?_
  refine ev_callS (as := [vI (σ.1 50 0 (a1.toNatClampNeg)), vI a2]) (st := []) g_M_isIn ml_M_169 d_M_timeBy_21 rfl rfl (Nat.le_of_ble_eq_true rfl) rfl (Nat.le_of_ble_eq_true rfl) ?_
  refine f_M_isIn  ?_
  show Ev none (d + 1) m_M_timeBy 24 [some (vR 11 0), some (vI a1), some (vI a2), some (vI a3), some (vI ((((σ.1 48 0 (a2.toNatClampNeg)) + a3) - (1 : Int32)) / a3))] [vI (bi (fp_M_isIn σ (σ.1 50 0 (a1.toNatClampNeg)) a2))] σ post
  refine ev_ifb_eq (tgt := 34) d_M_timeBy_24 rfl (fun h4 => ?_) (fun h4 => ?_)
  · rw [if_neg h4] at K
    refine ev_iload d_M_timeBy_34 rfl ?_
    exact ev_ret (r := some (vI ((((σ.1 48 0 (a2.toNatClampNeg)) + a3) - (1 : Int32)) / a3))) d_M_timeBy_36 rfl rfl K
  · rw [if_pos h4] at K
    refine ev_iconst (v := 2) d_M_timeBy_27 (by decide) ?_
    refine ev_iload d_M_timeBy_28 rfl ?_
    refine ev_imul d_M_timeBy_30 ?_
    refine ev_goto (tgt := 36) d_M_timeBy_31 rfl ?_
    exact ev_ret (r := some (vI ((2 : Int32) * ((((σ.1 48 0 (a2.toNatClampNeg)) + a3) - (1 : Int32)) / a3)))) d_M_timeBy_36 rfl rfl K
abbrev fp_O_areTwo (σ : ST) (a0 : Int32) (a1 : Int32) : Prop := (fp_O_isReader σ a0) ∧ ((fp_O_isReader σ a1) ∧ (¬ (a0 = a1)))
theorem f_O_areTwo {d : Nat} {σ : ST} {a0 : Int32} {a1 : Int32} {post : Option AV → ST → Prop} (K : post (some (vI (bi (fp_O_areTwo σ a0 a1)))) σ) : Ev none (d + 2) m_O_areTwo 0 [some (vI a0), some (vI a1)] [] σ post := by
  unfold fp_O_areTwo at K
  refine ev_iload_n d_O_areTwo_0 rfl rfl ?_
  refine ev_callS (as := [vI a0]) (st := []) g_O_isReader ml_O_121 d_O_areTwo_1 rfl rfl (Nat.le_of_ble_eq_true rfl) rfl (Nat.le_of_ble_eq_true rfl) ?_
  refine f_O_isReader  ?_
  show Ev none (d + 2) m_O_areTwo 4 [some (vI a0), some (vI a1)] [vI (bi (fp_O_isReader σ a0))] σ post
  refine ev_ifb_eq (tgt := 23) d_O_areTwo_4 rfl (fun h1 => ?_) (fun h1 => ?_)
  · rw [b3f h1] at K
    refine ev_iconst (v := 0) d_O_areTwo_23 (by decide) ?_
    exact ev_ret (r := some (vI (0 : Int32))) d_O_areTwo_24 rfl ⟨rfl, by decide⟩ K
  · rw [b3t h1] at K
    refine ev_iload_n d_O_areTwo_7 rfl rfl ?_
    refine ev_callS (as := [vI a1]) (st := []) g_O_isReader ml_O_121 d_O_areTwo_8 rfl rfl (Nat.le_of_ble_eq_true rfl) rfl (Nat.le_of_ble_eq_true rfl) ?_
    refine f_O_isReader  ?_
    show Ev none (d + 2) m_O_areTwo 11 [some (vI a0), some (vI a1)] [vI (bi (fp_O_isReader σ a1))] σ post
    refine ev_ifb_eq (tgt := 23) d_O_areTwo_11 rfl (fun h2 => ?_) (fun h2 => ?_)
    · rw [b3f h2] at K
      refine ev_iconst (v := 0) d_O_areTwo_23 (by decide) ?_
      exact ev_ret (r := some (vI (0 : Int32))) d_O_areTwo_24 rfl ⟨rfl, by decide⟩ K
    · rw [b3t h2] at K
      refine ev_iload_n d_O_areTwo_14 rfl rfl ?_
      refine ev_iload_n d_O_areTwo_15 rfl rfl ?_
      refine ev_icmp_eq (tgt := 23) d_O_areTwo_16 rfl (fun h3 => ?_) (fun h3 => ?_)
      · rw [bi_f (not_not_intro h3)] at K
        refine ev_iconst (v := 0) d_O_areTwo_23 (by decide) ?_
        exact ev_ret (r := some (vI (0 : Int32))) d_O_areTwo_24 rfl ⟨rfl, by decide⟩ K
      · rw [bi_t h3] at K
        refine ev_iconst (v := 1) d_O_areTwo_19 (by decide) ?_
        refine ev_goto (tgt := 24) d_O_areTwo_20 rfl ?_
        exact ev_ret (r := some (vI (1 : Int32))) d_O_areTwo_24 rfl ⟨rfl, by decide⟩ K
def fn_O_chapter (σ : ST) (a1 : Int32) (a2 : Int32) : Int32 := if fp_O_isChapter σ a1 then (if fp_O_within σ a2 (0 : Int32) (2 : Int32) then (if a2 = 0 then (fn_B_kindOf σ a1) else (if a2 = (1 : Int32) then (fn_B_linesOf σ a1) else (fn_O_asNumber σ (fn_C_isSkipped σ a1)))) else (-2 : Int32)) else (-2 : Int32)
def fs_O_chapter (σ : ST) (a1 : Int32) (a2 : Int32) : Prop := ((fp_O_isChapter σ a1) → (((fp_O_within σ a2 (0 : Int32) (2 : Int32)) → (((a2 = 0) → (fs_B_kindOf σ a1)) ∧ (¬ (a2 = 0) → (((a2 = (1 : Int32)) → (fs_B_linesOf σ a1)) ∧ (¬ (a2 = (1 : Int32)) → (fs_C_isSkipped σ a1)))))) ∧ (¬ (fp_O_within σ a2 (0 : Int32) (2 : Int32)) → True))) ∧ (¬ (fp_O_isChapter σ a1) → True)
theorem f_O_chapter {d : Nat} {σ : ST} {a1 : Int32} {a2 : Int32} {post : Option AV → ST → Prop} (KS : fs_O_chapter σ a1 a2) (K : post (some (vI (fn_O_chapter σ a1 a2))) σ) : Ev none (d + 2) m_O_chapter 0 [some (vR 0 0), some (vI a1), some (vI a2)] [] σ post := by
  unfold fn_O_chapter at K
  unfold fs_O_chapter at KS
  refine ev_aload_n d_O_chapter_0 rfl rfl ?_
  refine ev_iload_n d_O_chapter_1 rfl rfl ?_
  refine ev_callV (as := [vI a1]) (st := []) (k := 0) (i := 0) g_O_isChapter ml_O_104 rfl rfl (by decide) (by decide) d_O_chapter_2 rfl rfl (Nat.le_of_ble_eq_true rfl) rfl (Nat.le_of_ble_eq_true rfl) ?_
  refine f_O_isChapter  ?_
  show Ev none (d + 2) m_O_chapter 5 [some (vR 0 0), some (vI a1), some (vI a2)] [vI (bi (fp_O_isChapter σ a1))] σ post
  refine ev_ifb_eq (tgt := 17) d_O_chapter_5 rfl (fun h4 => ?_) (fun h4 => ?_)
  · replace KS := KS.2 h4
    rw [if_neg h4] at K
    refine ev_bipush (v := -2) d_O_chapter_17 (by decide) ?_
    exact ev_ret (r := some (vI (-2 : Int32))) d_O_chapter_19 rfl rfl K
  · replace KS := KS.1 h4
    rw [if_pos h4] at K
    refine ev_iload_n d_O_chapter_8 rfl rfl ?_
    refine ev_iconst (v := 0) d_O_chapter_9 (by decide) ?_
    refine ev_iconst (v := 2) d_O_chapter_10 (by decide) ?_
    refine ev_callS (as := [vI a2, vI (0 : Int32), vI (2 : Int32)]) (st := []) g_O_within ml_O_86 d_O_chapter_11 rfl rfl (Nat.le_of_ble_eq_true rfl) rfl (Nat.le_of_ble_eq_true rfl) ?_
    refine f_O_within  ?_
    show Ev none (d + 2) m_O_chapter 14 [some (vR 0 0), some (vI a1), some (vI a2)] [vI (bi (fp_O_within σ a2 (0 : Int32) (2 : Int32)))] σ post
    refine ev_ifb_ne (tgt := 20) d_O_chapter_14 rfl (fun h5 => ?_) (fun h5 => ?_)
    · replace KS := KS.1 h5
      rw [if_pos h5] at K
      refine ev_iload_n d_O_chapter_20 rfl rfl ?_
      refine ev_if_ne (tgt := 33) d_O_chapter_21 rfl (fun h6 => ?_) (fun h6 => ?_)
      · replace KS := KS.2 h6
        rw [if_neg h6] at K
        refine ev_iload_n d_O_chapter_33 rfl rfl ?_
        refine ev_iconst (v := 1) d_O_chapter_34 (by decide) ?_
        refine ev_icmp_ne (tgt := 49) d_O_chapter_35 rfl (fun h7 => ?_) (fun h7 => ?_)
        · replace KS := KS.2 h7
          rw [if_neg h7] at K
          have q3 := KS
          refine ev_aload_n d_O_chapter_49 rfl rfl ?_
          refine ev_getR gf_O_21 rfl (by decide) d_O_chapter_50 ?_
          refine ev_iload_n d_O_chapter_53 rfl rfl ?_
          refine ev_callV (as := [vI a1]) (st := []) (k := 2) (i := 0) g_C_isSkipped ml_O_114 rfl rfl (by decide) (by decide) d_O_chapter_54 rfl rfl (Nat.le_of_ble_eq_true rfl) rfl (Nat.le_of_ble_eq_true rfl) ?_
          refine f_C_isSkipped q3 ?_
          show Ev none (d + 2) m_O_chapter 57 [some (vR 0 0), some (vI a1), some (vI a2)] [vI (fn_C_isSkipped σ a1)] σ post
          refine ev_callS (as := [vI (fn_C_isSkipped σ a1)]) (st := []) g_O_asNumber ml_O_117 d_O_chapter_57 rfl rfl (Nat.le_of_ble_eq_true rfl) rfl (Nat.le_of_ble_eq_true rfl) ?_
          refine f_O_asNumber  ?_
          show Ev none (d + 2) m_O_chapter 60 [some (vR 0 0), some (vI a1), some (vI a2)] [vI (fn_O_asNumber σ (fn_C_isSkipped σ a1))] σ post
          exact ev_ret (r := some (vI (fn_O_asNumber σ (fn_C_isSkipped σ a1)))) d_O_chapter_60 rfl rfl K
        · replace KS := KS.1 h7
          rw [if_pos h7] at K
          have q2 := KS
          refine ev_aload_n d_O_chapter_38 rfl rfl ?_
          refine ev_getR gf_O_10 rfl (by decide) d_O_chapter_39 ?_
          refine ev_iload_n d_O_chapter_42 rfl rfl ?_
          refine ev_callV (as := [vI a1]) (st := []) (k := 1) (i := 0) g_B_linesOf ml_O_111 rfl rfl (by decide) (by decide) d_O_chapter_43 rfl rfl (Nat.le_of_ble_eq_true rfl) rfl (Nat.le_of_ble_eq_true rfl) ?_
          refine f_B_linesOf q2 ?_
          show Ev none (d + 2) m_O_chapter 46 [some (vR 0 0), some (vI a1), some (vI a2)] [vI (fn_B_linesOf σ a1)] σ post
          refine ev_goto (tgt := 60) d_O_chapter_46 rfl ?_
          exact ev_ret (r := some (vI (fn_B_linesOf σ a1))) d_O_chapter_60 rfl rfl K
      · replace KS := KS.1 h6
        rw [if_pos h6] at K
        have q1 := KS
        refine ev_aload_n d_O_chapter_24 rfl rfl ?_
        refine ev_getR gf_O_10 rfl (by decide) d_O_chapter_25 ?_
        refine ev_iload_n d_O_chapter_28 rfl rfl ?_
        refine ev_callV (as := [vI a1]) (st := []) (k := 1) (i := 0) g_B_kindOf ml_O_107 rfl rfl (by decide) (by decide) d_O_chapter_29 rfl rfl (Nat.le_of_ble_eq_true rfl) rfl (Nat.le_of_ble_eq_true rfl) ?_
        refine f_B_kindOf q1 ?_
        show Ev none (d + 2) m_O_chapter 32 [some (vR 0 0), some (vI a1), some (vI a2)] [vI (fn_B_kindOf σ a1)] σ post
        exact ev_ret (r := some (vI (fn_B_kindOf σ a1))) d_O_chapter_32 rfl rfl K
    · replace KS := KS.2 h5
      rw [if_neg h5] at K
      refine ev_bipush (v := -2) d_O_chapter_17 (by decide) ?_
      exact ev_ret (r := some (vI (-2 : Int32))) d_O_chapter_19 rfl rfl K
def fn_C_minutes (σ : ST) (a1 : Int32) (a2 : Int32) : Int32 := fn_C_minutesAt σ a1 a2 (fn_R_speedFor σ (a1.toNatClampNeg) (fn_B_kindOf σ a2))
def fs_C_minutes (σ : ST) (a1 : Int32) (a2 : Int32) : Prop := (vp_in a1 6) ∧ (fs_B_kindOf σ a2) ∧ (fs_R_speedFor σ (a1.toNatClampNeg) (fn_B_kindOf σ a2)) ∧ (fs_C_minutesAt σ a1 a2 (fn_R_speedFor σ (a1.toNatClampNeg) (fn_B_kindOf σ a2)))
theorem f_C_minutes {d : Nat} {σ : ST} {a1 : Int32} {a2 : Int32} {post : Option AV → ST → Prop} (KS : fs_C_minutes σ a1 a2) (K : post (some (vI (fn_C_minutes σ a1 a2))) σ) : Ev none (d + 2) m_C_minutes 0 [some (vR 2 0), some (vI a1), some (vI a2)] [] σ post := by
  unfold fn_C_minutes at K
  unfold fs_C_minutes at KS
  obtain ⟨q1, q3, q4, q5⟩ := KS
  refine ev_aload_n d_C_minutes_0 rfl rfl ?_
  refine ev_iload_n d_C_minutes_1 rfl rfl ?_
  refine ev_iload_n d_C_minutes_2 rfl rfl ?_
  refine ev_aload_n d_C_minutes_3 rfl rfl ?_
  refine ev_getR gf_C_11 rfl (by decide) d_C_minutes_4 ?_
  refine ev_iload_n d_C_minutes_7 rfl rfl ?_
  refine ev_aald3 rfl (by decide) (by decide) q1 d_C_minutes_8 ?_
  have b2 := ix_lt q1
  refine ev_aload_n d_C_minutes_9 rfl rfl ?_
  refine ev_getR gf_C_21 rfl (by decide) d_C_minutes_10 ?_
  refine ev_iload_n d_C_minutes_13 rfl rfl ?_
  refine ev_callV (as := [vI a2]) (st := [vR 3 (a1.toNatClampNeg), vI a2, vI a1, vR 2 0]) (k := 1) (i := 0) g_B_kindOf ml_C_32 rfl rfl (by decide) (by decide) d_C_minutes_14 rfl rfl (Nat.le_of_ble_eq_true rfl) rfl (Nat.le_of_ble_eq_true rfl) ?_
  refine f_B_kindOf q3 ?_
  show Ev none (d + 2) m_C_minutes 17 [some (vR 2 0), some (vI a1), some (vI a2)] [vI (fn_B_kindOf σ a2), vR 3 (a1.toNatClampNeg), vI a2, vI a1, vR 2 0] σ post
  refine ev_callV (as := [vI (fn_B_kindOf σ a2)]) (st := [vI a2, vI a1, vR 2 0]) (k := 3) (i := (a1.toNatClampNeg)) g_R_speedFor ml_C_44 rfl rfl (by decide) b2 d_C_minutes_17 rfl rfl (Nat.le_of_ble_eq_true rfl) rfl (Nat.le_of_ble_eq_true rfl) ?_
  refine f_R_speedFor b2 q4 ?_
  show Ev none (d + 2) m_C_minutes 20 [some (vR 2 0), some (vI a1), some (vI a2)] [vI (fn_R_speedFor σ (a1.toNatClampNeg) (fn_B_kindOf σ a2)), vI a2, vI a1, vR 2 0] σ post
  refine ev_callV (as := [vI a1, vI a2, vI (fn_R_speedFor σ (a1.toNatClampNeg) (fn_B_kindOf σ a2))]) (st := []) (k := 2) (i := 0) g_C_minutesAt ml_C_47 rfl rfl (by decide) (by decide) d_C_minutes_20 rfl rfl (Nat.le_of_ble_eq_true rfl) rfl (Nat.le_of_ble_eq_true rfl) ?_
  refine f_C_minutesAt q5 ?_
  show Ev none (d + 2) m_C_minutes 23 [some (vR 2 0), some (vI a1), some (vI a2)] [vI (fn_C_minutesAt σ a1 a2 (fn_R_speedFor σ (a1.toNatClampNeg) (fn_B_kindOf σ a2)))] σ post
  exact ev_ret (r := some (vI (fn_C_minutesAt σ a1 a2 (fn_R_speedFor σ (a1.toNatClampNeg) (fn_B_kindOf σ a2))))) d_C_minutes_23 rfl rfl K
abbrev fp_U_isThere (σ : ST) (a1 : Int32) : Prop := ¬ ((fn_C_chapters σ) ≤ (σ.1 32 0 (a1.toNatClampNeg)))
def fs_U_isThere (σ : ST) (a1 : Int32) : Prop := vp_in a1 8
theorem f_U_isThere {d : Nat} {σ : ST} {a1 : Int32} {post : Option AV → ST → Prop} (KS : fs_U_isThere σ a1) (K : post (some (vI (bi (fp_U_isThere σ a1)))) σ) : Ev none (d + 2) m_U_isThere 0 [some (vR 8 0), some (vI a1)] [] σ post := by
  unfold fp_U_isThere at K
  unfold fs_U_isThere at KS
  have q1 := KS
  refine ev_aload_n d_U_isThere_0 rfl rfl ?_
  refine ev_getR gf_U_11 rfl (by decide) d_U_isThere_1 ?_
  refine ev_iload_n d_U_isThere_4 rfl rfl ?_
  refine ev_iald rfl (by decide) (by decide) q1 d_U_isThere_5 ?_
  refine ev_aload_n d_U_isThere_6 rfl rfl ?_
  refine ev_getR gf_U_25 rfl (by decide) d_U_isThere_7 ?_
  refine ev_callV (as := []) (st := [vI (σ.1 32 0 (a1.toNatClampNeg))]) (k := 2) (i := 0) g_C_chapters ml_U_55 rfl rfl (by decide) (by decide) d_U_isThere_10 rfl rfl (Nat.le_of_ble_eq_true rfl) rfl (Nat.le_of_ble_eq_true rfl) ?_
  refine f_C_chapters  ?_
  show Ev none (d + 2) m_U_isThere 13 [some (vR 8 0), some (vI a1)] [vI (fn_C_chapters σ), vI (σ.1 32 0 (a1.toNatClampNeg))] σ post
  refine ev_icmp_ge (tgt := 20) d_U_isThere_13 rfl (fun h2 => ?_) (fun h2 => ?_)
  · rw [bi_f (not_not_intro h2)] at K
    refine ev_iconst (v := 0) d_U_isThere_20 (by decide) ?_
    exact ev_ret (r := some (vI (0 : Int32))) d_U_isThere_21 rfl ⟨rfl, by decide⟩ K
  · rw [bi_t h2] at K
    refine ev_iconst (v := 1) d_U_isThere_16 (by decide) ?_
    refine ev_goto (tgt := 21) d_U_isThere_17 rfl ?_
    exact ev_ret (r := some (vI (1 : Int32))) d_U_isThere_21 rfl ⟨rfl, by decide⟩ K
abbrev fp_M_areTwo (σ : ST) (a0 : Int32) (a1 : Int32) : Prop := (fp_M_isReader σ a0) ∧ ((fp_M_isReader σ a1) ∧ (¬ (a0 = a1)))
theorem f_M_areTwo {d : Nat} {σ : ST} {a0 : Int32} {a1 : Int32} {post : Option AV → ST → Prop} (K : post (some (vI (bi (fp_M_areTwo σ a0 a1)))) σ) : Ev none (d + 2) m_M_areTwo 0 [some (vI a0), some (vI a1)] [] σ post := by
  unfold fp_M_areTwo at K
  refine ev_iload_n d_M_areTwo_0 rfl rfl ?_
  refine ev_callS (as := [vI a0]) (st := []) g_M_isReader ml_M_149 d_M_areTwo_1 rfl rfl (Nat.le_of_ble_eq_true rfl) rfl (Nat.le_of_ble_eq_true rfl) ?_
  refine f_M_isReader  ?_
  show Ev none (d + 2) m_M_areTwo 4 [some (vI a0), some (vI a1)] [vI (bi (fp_M_isReader σ a0))] σ post
  refine ev_ifb_eq (tgt := 23) d_M_areTwo_4 rfl (fun h1 => ?_) (fun h1 => ?_)
  · rw [b3f h1] at K
    refine ev_iconst (v := 0) d_M_areTwo_23 (by decide) ?_
    exact ev_ret (r := some (vI (0 : Int32))) d_M_areTwo_24 rfl ⟨rfl, by decide⟩ K
  · rw [b3t h1] at K
    refine ev_iload_n d_M_areTwo_7 rfl rfl ?_
    refine ev_callS (as := [vI a1]) (st := []) g_M_isReader ml_M_149 d_M_areTwo_8 rfl rfl (Nat.le_of_ble_eq_true rfl) rfl (Nat.le_of_ble_eq_true rfl) ?_
    refine f_M_isReader  ?_
    show Ev none (d + 2) m_M_areTwo 11 [some (vI a0), some (vI a1)] [vI (bi (fp_M_isReader σ a1))] σ post
    refine ev_ifb_eq (tgt := 23) d_M_areTwo_11 rfl (fun h2 => ?_) (fun h2 => ?_)
    · rw [b3f h2] at K
      refine ev_iconst (v := 0) d_M_areTwo_23 (by decide) ?_
      exact ev_ret (r := some (vI (0 : Int32))) d_M_areTwo_24 rfl ⟨rfl, by decide⟩ K
    · rw [b3t h2] at K
      refine ev_iload_n d_M_areTwo_14 rfl rfl ?_
      refine ev_iload_n d_M_areTwo_15 rfl rfl ?_
      refine ev_icmp_eq (tgt := 23) d_M_areTwo_16 rfl (fun h3 => ?_) (fun h3 => ?_)
      · rw [bi_f (not_not_intro h3)] at K
        refine ev_iconst (v := 0) d_M_areTwo_23 (by decide) ?_
        exact ev_ret (r := some (vI (0 : Int32))) d_M_areTwo_24 rfl ⟨rfl, by decide⟩ K
      · rw [bi_t h3] at K
        refine ev_iconst (v := 1) d_M_areTwo_19 (by decide) ?_
        refine ev_goto (tgt := 24) d_M_areTwo_20 rfl ?_
        exact ev_ret (r := some (vI (1 : Int32))) d_M_areTwo_24 rfl ⟨rfl, by decide⟩ K
def fn_M_timeOf (σ : ST) (a1 : Int32) (a2 : Int32) : Int32 := fn_M_timeBy σ a1 a2 (σ.1 49 0 ((((3 : Int32) * a1) + (σ.1 47 0 (a2.toNatClampNeg))).toNatClampNeg))
def fs_M_timeOf (σ : ST) (a1 : Int32) (a2 : Int32) : Prop := (vp_in a2 8) ∧ (vp_in (((3 : Int32) * a1) + (σ.1 47 0 (a2.toNatClampNeg))) 18) ∧ (fs_M_timeBy σ a1 a2 (σ.1 49 0 ((((3 : Int32) * a1) + (σ.1 47 0 (a2.toNatClampNeg))).toNatClampNeg)))
theorem f_M_timeOf {d : Nat} {σ : ST} {a1 : Int32} {a2 : Int32} {post : Option AV → ST → Prop} (KS : fs_M_timeOf σ a1 a2) (K : post (some (vI (fn_M_timeOf σ a1 a2))) σ) : Ev none (d + 2) m_M_timeOf 0 [some (vR 11 0), some (vI a1), some (vI a2)] [] σ post := by
  unfold fn_M_timeOf at K
  unfold fs_M_timeOf at KS
  obtain ⟨q1, q2, q3⟩ := KS
  refine ev_aload_n d_M_timeOf_0 rfl rfl ?_
  refine ev_iload_n d_M_timeOf_1 rfl rfl ?_
  refine ev_iload_n d_M_timeOf_2 rfl rfl ?_
  refine ev_aload_n d_M_timeOf_3 rfl rfl ?_
  refine ev_getR gf_M_31 rfl (by decide) d_M_timeOf_4 ?_
  refine ev_iconst (v := 3) d_M_timeOf_7 (by decide) ?_
  refine ev_iload_n d_M_timeOf_8 rfl rfl ?_
  refine ev_imul d_M_timeOf_9 ?_
  refine ev_aload_n d_M_timeOf_10 rfl rfl ?_
  refine ev_getR gf_M_25 rfl (by decide) d_M_timeOf_11 ?_
  refine ev_iload_n d_M_timeOf_14 rfl rfl ?_
  refine ev_iald rfl (by decide) (by decide) q1 d_M_timeOf_15 ?_
  refine ev_iadd d_M_timeOf_16 ?_
  refine ev_iald rfl (by decide) (by decide) q2 d_M_timeOf_17 ?_
  refine ev_callV (as := [vI a1, vI a2, vI (σ.1 49 0 ((((3 : Int32) * a1) + (σ.1 47 0 (a2.toNatClampNeg))).toNatClampNeg))]) (st := []) (k := 11) (i := 0) g_M_timeBy ml_M_173 rfl rfl (by decide) (by decide) d_M_timeOf_18 rfl rfl (Nat.le_of_ble_eq_true rfl) rfl (Nat.le_of_ble_eq_true rfl) ?_
  refine f_M_timeBy q3 ?_
  show Ev none (d + 2) m_M_timeOf 21 [some (vR 11 0), some (vI a1), some (vI a2)] [vI (fn_M_timeBy σ a1 a2 (σ.1 49 0 ((((3 : Int32) * a1) + (σ.1 47 0 (a2.toNatClampNeg))).toNatClampNeg)))] σ post
  exact ev_ret (r := some (vI (fn_M_timeBy σ a1 a2 (σ.1 49 0 ((((3 : Int32) * a1) + (σ.1 47 0 (a2.toNatClampNeg))).toNatClampNeg))))) d_M_timeOf_21 rfl rfl K
def fn_O_time (σ : ST) (a1 : Int32) (a2 : Int32) : Int32 := if fp_O_isReader σ a1 then (if fp_O_isChapter σ a2 then (fn_C_minutes σ a1 a2) else (-2 : Int32)) else (-2 : Int32)
def fs_O_time (σ : ST) (a1 : Int32) (a2 : Int32) : Prop := ((fp_O_isReader σ a1) → (((fp_O_isChapter σ a2) → (fs_C_minutes σ a1 a2)) ∧ (¬ (fp_O_isChapter σ a2) → True))) ∧ (¬ (fp_O_isReader σ a1) → True)
theorem f_O_time {d : Nat} {σ : ST} {a1 : Int32} {a2 : Int32} {post : Option AV → ST → Prop} (KS : fs_O_time σ a1 a2) (K : post (some (vI (fn_O_time σ a1 a2))) σ) : Ev none (d + 3) m_O_time 0 [some (vR 0 0), some (vI a1), some (vI a2)] [] σ post := by
  unfold fn_O_time at K
  unfold fs_O_time at KS
  refine ev_iload_n d_O_time_0 rfl rfl ?_
  refine ev_callS (as := [vI a1]) (st := []) g_O_isReader ml_O_121 d_O_time_1 rfl rfl (Nat.le_of_ble_eq_true rfl) rfl (Nat.le_of_ble_eq_true rfl) ?_
  refine f_O_isReader  ?_
  show Ev none (d + 3) m_O_time 4 [some (vR 0 0), some (vI a1), some (vI a2)] [vI (bi (fp_O_isReader σ a1))] σ post
  refine ev_ifb_eq (tgt := 15) d_O_time_4 rfl (fun h2 => ?_) (fun h2 => ?_)
  · replace KS := KS.2 h2
    rw [if_neg h2] at K
    refine ev_bipush (v := -2) d_O_time_15 (by decide) ?_
    exact ev_ret (r := some (vI (-2 : Int32))) d_O_time_17 rfl rfl K
  · replace KS := KS.1 h2
    rw [if_pos h2] at K
    refine ev_aload_n d_O_time_7 rfl rfl ?_
    refine ev_iload_n d_O_time_8 rfl rfl ?_
    refine ev_callV (as := [vI a2]) (st := []) (k := 0) (i := 0) g_O_isChapter ml_O_104 rfl rfl (by decide) (by decide) d_O_time_9 rfl rfl (Nat.le_of_ble_eq_true rfl) rfl (Nat.le_of_ble_eq_true rfl) ?_
    refine f_O_isChapter  ?_
    show Ev none (d + 3) m_O_time 12 [some (vR 0 0), some (vI a1), some (vI a2)] [vI (bi (fp_O_isChapter σ a2))] σ post
    refine ev_ifb_ne (tgt := 18) d_O_time_12 rfl (fun h3 => ?_) (fun h3 => ?_)
    · replace KS := KS.1 h3
      rw [if_pos h3] at K
      have q1 := KS
      refine ev_aload_n d_O_time_18 rfl rfl ?_
      refine ev_getR gf_O_21 rfl (by decide) d_O_time_19 ?_
      refine ev_iload_n d_O_time_22 rfl rfl ?_
      refine ev_iload_n d_O_time_23 rfl rfl ?_
      refine ev_callV (as := [vI a1, vI a2]) (st := []) (k := 2) (i := 0) g_C_minutes ml_O_169 rfl rfl (by decide) (by decide) d_O_time_24 rfl rfl (Nat.le_of_ble_eq_true rfl) rfl (Nat.le_of_ble_eq_true rfl) ?_
      refine f_C_minutes q1 ?_
      show Ev none (d + 3) m_O_time 27 [some (vR 0 0), some (vI a1), some (vI a2)] [vI (fn_C_minutes σ a1 a2)] σ post
      exact ev_ret (r := some (vI (fn_C_minutes σ a1 a2))) d_O_time_27 rfl rfl K
    · replace KS := KS.2 h3
      rw [if_neg h3] at K
      refine ev_bipush (v := -2) d_O_time_15 (by decide) ?_
      exact ev_ret (r := some (vI (-2 : Int32))) d_O_time_17 rfl rfl K
abbrev fp_U_tellsOf (σ : ST) (a1 : Int32) (a2 : Int32) (a3 : Int32) : Prop := (fp_U_isThere σ a1) ∧ (((fn_C_kindOf σ (σ.1 32 0 (a1.toNatClampNeg))) = a3) ∧ (fp_O_holds σ (σ.1 33 0 (a1.toNatClampNeg)) a2))
def fs_U_tellsOf (σ : ST) (a1 : Int32) (a2 : Int32) (a3 : Int32) : Prop := (fs_U_isThere σ a1) ∧ (((fp_U_isThere σ a1) → ((vp_in a1 8) ∧ (fs_C_kindOf σ (σ.1 32 0 (a1.toNatClampNeg))) ∧ ((((fn_C_kindOf σ (σ.1 32 0 (a1.toNatClampNeg))) = a3) → (vp_in a1 8)) ∧ (¬ ((fn_C_kindOf σ (σ.1 32 0 (a1.toNatClampNeg))) = a3) → True)))) ∧ (¬ (fp_U_isThere σ a1) → True))
theorem f_U_tellsOf {d : Nat} {σ : ST} {a1 : Int32} {a2 : Int32} {a3 : Int32} {post : Option AV → ST → Prop} (KS : fs_U_tellsOf σ a1 a2 a3) (K : post (some (vI (bi (fp_U_tellsOf σ a1 a2 a3)))) σ) : Ev none (d + 3) m_U_tellsOf 0 [some (vR 8 0), some (vI a1), some (vI a2), some (vI a3)] [] σ post := by
  unfold fp_U_tellsOf at K
  unfold fs_U_tellsOf at KS
  obtain ⟨q1, KS⟩ := KS
  refine ev_aload_n d_U_tellsOf_0 rfl rfl ?_
  refine ev_iload_n d_U_tellsOf_1 rfl rfl ?_
  refine ev_callV (as := [vI a1]) (st := []) (k := 8) (i := 0) g_U_isThere ml_U_29 rfl rfl (by decide) (by decide) d_U_tellsOf_2 rfl rfl (Nat.le_of_ble_eq_true rfl) rfl (Nat.le_of_ble_eq_true rfl) ?_
  refine f_U_isThere q1 ?_
  show Ev none (d + 3) m_U_tellsOf 5 [some (vR 8 0), some (vI a1), some (vI a2), some (vI a3)] [vI (bi (fp_U_isThere σ a1))] σ post
  refine ev_ifb_eq (tgt := 42) d_U_tellsOf_5 rfl (fun h5 => ?_) (fun h5 => ?_)
  · replace KS := KS.2 h5
    rw [b3f h5] at K
    refine ev_iconst (v := 0) d_U_tellsOf_42 (by decide) ?_
    exact ev_ret (r := some (vI (0 : Int32))) d_U_tellsOf_43 rfl ⟨rfl, by decide⟩ K
  · replace KS := KS.1 h5
    rw [b3t h5] at K
    obtain ⟨q2, q3, KS⟩ := KS
    refine ev_aload_n d_U_tellsOf_8 rfl rfl ?_
    refine ev_getR gf_U_25 rfl (by decide) d_U_tellsOf_9 ?_
    refine ev_aload_n d_U_tellsOf_12 rfl rfl ?_
    refine ev_getR gf_U_11 rfl (by decide) d_U_tellsOf_13 ?_
    refine ev_iload_n d_U_tellsOf_16 rfl rfl ?_
    refine ev_iald rfl (by decide) (by decide) q2 d_U_tellsOf_17 ?_
    refine ev_callV (as := [vI (σ.1 32 0 (a1.toNatClampNeg))]) (st := []) (k := 2) (i := 0) g_C_kindOf ml_U_58 rfl rfl (by decide) (by decide) d_U_tellsOf_18 rfl rfl (Nat.le_of_ble_eq_true rfl) rfl (Nat.le_of_ble_eq_true rfl) ?_
    refine f_C_kindOf q3 ?_
    show Ev none (d + 3) m_U_tellsOf 21 [some (vR 8 0), some (vI a1), some (vI a2), some (vI a3)] [vI (fn_C_kindOf σ (σ.1 32 0 (a1.toNatClampNeg)))] σ post
    refine ev_iload_n d_U_tellsOf_21 rfl rfl ?_
    refine ev_icmp_ne (tgt := 42) d_U_tellsOf_22 rfl (fun h6 => ?_) (fun h6 => ?_)
    · replace KS := KS.2 h6
      rw [b3f h6] at K
      refine ev_iconst (v := 0) d_U_tellsOf_42 (by decide) ?_
      exact ev_ret (r := some (vI (0 : Int32))) d_U_tellsOf_43 rfl ⟨rfl, by decide⟩ K
    · replace KS := KS.1 h6
      rw [b3t h6] at K
      have q4 := KS
      refine ev_aload_n d_U_tellsOf_25 rfl rfl ?_
      refine ev_getR gf_U_15 rfl (by decide) d_U_tellsOf_26 ?_
      refine ev_iload_n d_U_tellsOf_29 rfl rfl ?_
      refine ev_iald rfl (by decide) (by decide) q4 d_U_tellsOf_30 ?_
      refine ev_iload_n d_U_tellsOf_31 rfl rfl ?_
      refine ev_callN (as := [vI (σ.1 33 0 (a1.toNatClampNeg)), vI a2]) (st := []) g_O_holds ml_U_62 d_U_tellsOf_32 rfl rfl (Nat.le_of_ble_eq_true rfl) rfl (Nat.le_of_ble_eq_true rfl) ?_
      refine f_O_holds  ?_
      show Ev none (d + 3) m_U_tellsOf 35 [some (vR 8 0), some (vI a1), some (vI a2), some (vI a3)] [vI (bi (fp_O_holds σ (σ.1 33 0 (a1.toNatClampNeg)) a2))] σ post
      refine ev_ifb_eq (tgt := 42) d_U_tellsOf_35 rfl (fun h7 => ?_) (fun h7 => ?_)
      · rw [bi_f h7] at K
        refine ev_iconst (v := 0) d_U_tellsOf_42 (by decide) ?_
        exact ev_ret (r := some (vI (0 : Int32))) d_U_tellsOf_43 rfl ⟨rfl, by decide⟩ K
      · rw [bi_t h7] at K
        refine ev_iconst (v := 1) d_U_tellsOf_38 (by decide) ?_
        refine ev_goto (tgt := 43) d_U_tellsOf_39 rfl ?_
        exact ev_ret (r := some (vI (1 : Int32))) d_U_tellsOf_43 rfl ⟨rfl, by decide⟩ K
