-- paces, unlike
def tc (A : ST) (k : Nat) : Nat := (A.1 8 k 0).toNatClampNeg
theorem tc_ix {A : ST} (hw : Wf A) {k : Nat} (hk : k < 8) : A.1 8 k 0 = nI (tc A k) ∧ tc A k ≤ 7 := by
  obtain ⟨j, hj, e⟩ := rg_nI (n := 7) (hw.2.2.2.2.2.2.1.2 k hk).1
  unfold tc
  rw [e, nI_ix (by omega)]
  exact ⟨rfl, hj⟩
abbrev wo (s : Int32) (r : Nat) : Int32 := s &&& ((isl 1 (nI r)) ^^^ (-1))
abbrev tells (A : ST) (k r : Nat) (kd : Int32) : Prop := tc A k < nC A ∧ kC A (tc A k) = kd ∧ hld (A.1 8 k 1) r
abbrev fit1 (A : ST) (k r : Nat) (v : Int32) : Prop := imax (tog A (wo (A.1 8 k 1) r) (tc A k)) (tmBy A r (tc A k) v) = A.1 8 k 2
abbrev fitA (A : ST) (r : Nat) (kd v : Int32) (n : Nat) : Prop := ∀ k, k < n → tells A k r kd → fit1 A k r v
def fpK (A : ST) (r : Nat) (kd : Int32) : Nat → Int32
  | 0 => 0
  | p + 1 => if fitA A r kd (nI (p + 1)) (tN A) then fpK A r kd p ||| isl 1 (nI p) else fpK A r kd p
theorem fpK_s {A : ST} {r : Nat} {kd : Int32} {p : Nat} : fpK A r kd (p + 1) = if fitA A r kd (nI (p + 1)) (tN A) then fpK A r kd p ||| isl 1 (nI p) else fpK A r kd p := rfl
theorem c_there {A σ : ST} (hw : Wf A) (h : RepC A σ) {k : Nat} (hk : k < 8) : fp_U_isThere σ (nI k) ↔ tc A k < nC A := by
  have h8 := nC_le hw
  obtain ⟨e, hl⟩ := tc_ix hw hk
  unfold fp_U_isThere
  rw [c_chs h, nI_ix (by omega), (h.2.2.2.2.2.2.1.2 k hk).1, e, nI_leI (by omega) (by omega)]
  omega
theorem c_tells {A σ : ST} (hw : Wf A) (h : RepC A σ) {k r : Nat} {kd : Int32} (hk : k < 8) : fs_U_tellsOf σ (nI k) (nI r) kd ∧ (fp_U_tellsOf σ (nI k) (nI r) kd ↔ tells A k r kd) := by
  have h8 := nC_le hw
  obtain ⟨e, hl⟩ := tc_ix hw hk
  have ht := c_there hw h hk
  have hU := h.2.2.2.2.2.2.1.2 k hk
  refine ⟨⟨vpin hk (by decide), fun _ => ⟨vpin hk (by decide), ?_, fun _ => vpin hk (by decide), fun _ => trivial⟩, fun _ => trivial⟩, ?_⟩
  · unfold fs_C_kindOf fs_B_kindOf
    rw [nI_ix (by omega), hU.1, e]
    exact vpin (by omega) (by decide)
  · unfold fp_U_tellsOf tells fn_C_kindOf fn_B_kindOf fp_O_holds
    rw [ht, nI_ix (by omega), hU.1, hU.2.1, e, nI_ix (by omega)]
    constructor
    · rintro ⟨q1, q2, q3⟩
      exact ⟨q1, by rw [← (h.1.2.2.2 _ q1).1]; exact q2, q3⟩
    · rintro ⟨q1, q2, q3⟩
      exact ⟨q1, by rw [(h.1.2.2.2 _ q1).1]; exact q2, q3⟩
theorem c_fits {A σ : ST} {d r : Nat} {kd v : Int32} (hw : Wf A) (h : RepC A σ) (hr : r < 6) (hv : rg v 1 9) {post : Option AV → ST → Prop} (K : post (some (vI (bi (fitA A r kd v (tN A))))) σ) : Ev none (d + 4) m_U_fitsAll 0 [some (vR 8 0), some (vI (nI r)), some (vI kd), some (vI v), none, none, none] [] σ post := by
  obtain ⟨⟨eT, hT⟩, _⟩ := hw.2.2.2.2.2.2.1
  have e4 : σ.1 8 0 4 = nI (tN A) := h.2.2.2.2.2.2.1.1.trans eT
  refine sg_U_fitsAll_0 ?_
  refine upto (n := tN A) (P := fun k => fitA A r kd v k → Ev none (d + 4) m_U_fitsAll 3 [some (vR 8 0), some (vI (nI r)), some (vI kd), some (vI v), some (vI (nI k)), none, none] [] σ post) ?_ ?_ (fun o ho => absurd ho (Nat.not_lt_zero _))
  · intro hf
    rw [bi_t hf] at K
    exact sg_U_fitsAll_3 ⟨fun _ => K, fun q => absurd (by rw [e4]; exact Int32.le_refl _) q⟩
  · intro k hk ih hf
    have hk8 : k < 8 := by omega
    obtain ⟨t1, t2⟩ := c_tells hw h (r := r) (kd := kd) hk8
    obtain ⟨e, hl⟩ := tc_ix hw hk8
    have hU := h.2.2.2.2.2.2.1.2 k hk8
    have hvk := vpin hk8 (by decide)
    refine sg_U_fitsAll_3 ⟨fun q => ?_, fun _ => ⟨t1, fun q => ⟨hvk, hvk, ?_⟩, fun q => ?_⟩⟩
    · rw [e4] at q
      exact absurd ((nI_leI (by omega) (by omega)).mp q) (by omega)
    · have ht := t2.mp q
      obtain ⟨b1, b2⟩ := c_by hw h hr ht.1 hv
      rw [nI_ix (show k < 2 ^ 31 by omega), hU.1, hU.2.1, e, nI_1]
      refine c_tog hw h ht.1 ⟨_, rfl, hvk, ?_⟩
      rw [hU.1, hU.2.2, e, b1]
      refine ⟨b2, hvk, fun g => ih (fun x hx => ?_), fun g => ?_⟩
      · by_cases e : x = k
        · subst e; exact fun _ => g
        · exact hf x (by omega)
      · rw [bi_f] at K
        · exact K
        · exact fun z => g (z k hk ht)
    · rw [nI_1]
      refine ih (fun x hx => ?_)
      by_cases e : x = k
      · subst e; exact fun z => absurd (t2.mpr z) q
      · exact hf x (by omega)
theorem rg19 {p : Nat} (hp : p < 9) : rg (nI (p + 1)) 1 9 := nI_rg' (by omega) (by omega) (by omega)
theorem c_paces {A σ : ST} {d r : Nat} {kd : Int32} (hw : Wf A) (h : RepC A σ) (hr : r < 6) {post : Option AV → ST → Prop} (K : post (some (vI (fpK A r kd 9))) σ) : Ev none (d + 5) m_U_fittingPaces 0 [some (vR 8 0), some (vI (nI r)), some (vI kd), none, none] [] σ post := by
  refine sg_U_fittingPaces_0 ?_
  refine upto (n := 9) (P := fun p => Ev none (d + 5) m_U_fittingPaces 5 [some (vR 8 0), some (vI (nI r)), some (vI kd), some (vI (fpK A r kd p)), some (vI (nI (p + 1)))] [] σ post) ?_ ?_
  · exact sg_U_fittingPaces_5 ⟨fun _ => K, fun q => absurd (by decide) q⟩
  · intro p hp ih
    refine sg_U_fittingPaces_5 ⟨fun q => absurd ((nI_ltI (a := 9) (by decide) (by omega)).mp q) (by omega), fun _ => ?_⟩
    refine c_fits hw h hr (rg19 hp) ⟨_, rfl, fun z hz => ?_⟩
    have e : z = fpK A r kd (p + 1) := by
      rw [hz, fpK_s, nI_pred]
      by_cases q : fitA A r kd (nI (p + 1)) (tN A)
      · rw [bi_t q, if_pos q, if_neg (by decide)]
      · rw [bi_f q, if_neg q, if_pos rfl]
    rw [e, nI_1]
    exact ih
theorem m_paces {A σ : ST} {d r : Nat} {kd : Int32} (hw : Wf A) (h : RepM A σ) (hp : Psd A σ) (hr : r < 6) {post : Option AV → ST → Prop} (K : post (some (vI (fpK A r kd 9))) σ) : Ev none (d + 4) m_M_pacesOf 0 [some (vR 11 0), some (vI (nI r)), some (vI kd), none, none, none, none, none, none, none, none] [] σ post := by
  have h8 := nC_le hw
  obtain ⟨⟨eT, hT⟩, _⟩ := hw.2.2.2.2.2.2.1
  have e4 : σ.1 11 0 29 = nI (tN A) := h.2.2.2.2.2.2.1.1.trans eT
  refine sg_M_pacesOf_0 ?_
  refine upto (n := 9) (P := fun p => Ev none (d + 4) m_M_pacesOf 5 [some (vR 11 0), some (vI (nI r)), some (vI kd), some (vI (fpK A r kd p)), some (vI (nI (p + 1))), none, none, none, none, none, none] [] σ post) ?_ ?_
  · exact sg_M_pacesOf_5 ⟨fun _ => K, fun q => absurd (Int32.le_refl _) q⟩
  · intro p hp9 ih
    refine sg_M_pacesOf_5 ⟨fun q => absurd ((nI_leI (a := 10) (by decide) (by omega)).mp q) (by omega), fun _ => ?_⟩
    have e0 : (1 : Int32) = bi (fitA A r kd (nI (p + 1)) 0) := (bi_t (fun o ho => absurd ho (Nat.not_lt_zero _))).symm
    rw [e0]
    refine upto (n := tN A) (P := fun k => Ev none (d + 4) m_M_pacesOf 18 [some (vR 11 0), some (vI (nI r)), some (vI kd), some (vI (fpK A r kd p)), some (vI (nI (p + 1))), some (vI (bi (fitA A r kd (nI (p + 1)) k))), some (vI (nI k)), none, none, none, none] [] σ post) ?_ ?_
    · refine sg_M_pacesOf_18 ⟨fun _ z hz => ?_, fun q => absurd (by rw [e4]; exact Int32.le_refl _) q⟩
      have e : fpK A r kd p ||| z = fpK A r kd (p + 1) := by
        rw [hz, fpK_s, nI_pred]
        by_cases q : fitA A r kd (nI (p + 1)) (tN A)
        · rw [bi_t q, if_pos q, if_neg (by decide)]
        · rw [bi_f q, if_neg q, if_pos rfl, Int32.or_zero]
      rw [e, nI_1]
      exact ih
    · intro k hk ihk
      have hk8 : k < 8 := by omega
      obtain ⟨e, hl⟩ := tc_ix hw hk8
      have hU := h.2.2.2.2.2.2.1.2 k
      have hU0 := hU 0 hk8 (by omega)
      have hU1 := hU 1 hk8 (by omega)
      have hU2 := hU 2 hk8 (by omega)
      have i1 : (3 : Int32) * nI k = nI (3 * k) := ix3m k
      have i2 : nI (3 * k) + 1 = nI (3 * k + 1) := nI_1 _
      have i3 : nI (3 * k) + 2 = nI (3 * k + 2) := nI_add _ 2
      refine sg_M_pacesOf_18 ⟨fun q => ?_, fun _ => ?_⟩
      · rw [e4] at q
        exact absurd ((nI_leI (by omega) (by omega)).mp q) (by omega)
      rw [i1, i2, i3, nI_ix (show 3 * k < 2 ^ 31 by omega), nI_ix (show 3 * k + 1 < 2 ^ 31 by omega), nI_ix (show 3 * k + 2 < 2 ^ 31 by omega), hU1]
      rw [show 3 * k + 0 = 3 * k from rfl] at hU0
      rw [hU0, e, hp.1, nI_ix (show tc A k < 2 ^ 31 by omega), nI_leI (by omega) (by omega), nI_1]
      refine ⟨vpin (by omega) (by decide), vpin (by omega) (by decide), ⟨fun _ => trivial, fun _ => vpin (by omega) (by decide)⟩, fun q => ?_, fun q => ?_⟩
      · have hn : ¬ tells A k r kd := by
          rintro ⟨z1, z2, z3⟩
          rcases q with q | q | q
          · omega
          · rw [(hp.2 _ z1).1] at q; exact q z2
          · exact q z3
        have : bi (fitA A r kd (nI (p + 1)) (k + 1)) = bi (fitA A r kd (nI (p + 1)) k) := by
          refine bi_iff ⟨fun w x hx => w x (by omega), fun w x hx => ?_⟩
          by_cases ex : x = k
          · subst ex; exact fun z => absurd z hn
          · exact w x (by omega)
        rw [this] at ihk
        exact ihk
      · have q1 : tc A k < nC A := by
          rcases Nat.lt_or_ge (tc A k) (nC A) with g | g
          · exact g
          · exact absurd (Or.inl g) q
        have q2 : kC A (tc A k) = kd := by
          rw [← (hp.2 _ q1).1]
          exact Decidable.byContradiction fun w => q (Or.inr (Or.inl w))
        have q3 : hld (A.1 8 k 1) r := Decidable.byContradiction fun w => q (Or.inr (Or.inr w))
        have ht : tells A k r kd := ⟨q1, q2, q3⟩
        obtain ⟨b1, b2⟩ := m_by hw h hp hr q1 (rg19 hp9)
        rw [b1]
        refine ⟨b2, m_tog hw h hp q1 ⟨_, rfl, ⟨fun _ => trivial, fun _ => ⟨fun _ => vpin (by omega) (by decide), fun _ => vpin (by omega) (by decide)⟩⟩, fun z hz => ?_⟩⟩
        have : z = bi (fitA A r kd (nI (p + 1)) (k + 1)) := by
          rw [hz, hU2]
          refine bi_iff ⟨fun w x hx => ?_, fun w => ⟨fun g => bi_0.mp g (fun x hx => w x (by omega)), ?_⟩⟩
          · by_cases ex : x = k
            · subst ex
              intro _
              unfold fit1 imax
              rcases w.2 with ⟨g1, g2⟩ | ⟨g1, g2⟩
              · rw [if_neg (Int32.not_lt.mpr g1)]; exact g2
              · rw [if_pos (Int32.not_le.mp g1)]; exact g2
            · have hf : fitA A r kd (nI (p + 1)) k := Decidable.byContradiction fun g => w.1 (bi_0.mpr g)
              exact hf x (by omega)
          · have hf := w k (by omega) ht
            unfold fit1 imax at hf
            by_cases g : tmBy A r (tc A k) (nI (p + 1)) ≤ tog A (wo (A.1 8 k 1) r) (tc A k)
            · rw [if_neg (Int32.not_lt.mpr g)] at hf
              exact Or.inl ⟨g, hf⟩
            · rw [if_pos (Int32.not_le.mp g)] at hf
              exact Or.inr ⟨g, hf⟩
        rw [this]
        exact ihk
abbrev g_paces (a1 a2 : Int32) : Prop := rg a1 0 5 ∧ rg a2 0 2
def an_paces (A : ST) (a1 a2 : Int32) : Int32 := if g_paces a1 a2 then fpK A a1.toNatClampNeg a2 9 else -2
theorem cs_paces {A : ST} {a1 a2 : Int32} {d : Nat} (hw : Wf A) : CS m_O_paces [some (vR 0 0), some (vI a1), some (vI a2)] (d + 6) A A (vI (an_paces A a1 a2)) := by
  intro σ post h K
  have K' := K σ h (AgM.off (S := []) Off.rf)
  unfold an_paces at K'
  by_cases hg : g_paces a1 a2
  · rw [if_pos hg] at K'
    refine sg_O_paces_0 ⟨fun _ => ?_, fun g => absurd ⟨(wi 0 5).mpr hg.1, (wi 0 2).mpr hg.2⟩ g⟩
    obtain ⟨r, hr, rfl⟩ := rg_nI (n := 5) hg.1
    rw [nI_ix (by omega)] at K'
    exact c_paces hw h (by omega) ⟨_, rfl, K'⟩
  · rw [if_neg hg] at K'
    exact sg_O_paces_0 ⟨fun g => absurd ⟨(wi 0 5).mp g.1, (wi 0 2).mp g.2⟩ hg, fun _ => K'⟩
theorem ms_paces {A : ST} {a1 a2 : Int32} {d : Nat} (hw : Wf A) : MSp m_M_paces [some (vR 11 0), some (vI a1), some (vI a2)] (d + 5) A A (vI (an_paces A a1 a2)) := by
  intro σ post h K
  unfold an_paces at K
  refine sg_M_paces_0 (m_reads hw h (fun σ1 h1 h2 h3 => ⟨_, rfl, fun q => ?_, fun q => ?_⟩))
  · rw [if_neg] at K
    · exact K σ1 h1 (AgC.off h3)
    · rintro ⟨z1, z2⟩
      rcases q with q | q
      · exact q ((mi 0 5).mpr z1)
      · exact q ((mi 0 2).mpr z2)
  · have z1 : rg a1 0 5 := (mi 0 5).mp (Decidable.byContradiction fun w => q (Or.inl w))
    have z2 : rg a2 0 2 := (mi 0 2).mp (Decidable.byContradiction fun w => q (Or.inr w))
    rw [if_pos ⟨z1, z2⟩] at K
    obtain ⟨r, hr, rfl⟩ := rg_nI (n := 5) z1
    rw [nI_ix (by omega)] at K
    exact m_paces hw h1 h2 (by omega) ⟨_, rfl, K σ1 h1 (AgC.off h3)⟩
-- unlike
abbrev alike (A : ST) (k : Nat) : Prop := tc A k < nC A ∧ tog A (A.1 8 k 1) (tc A k) = A.1 8 k 2
def ulK (A : ST) : Nat → Nat
  | 0 => 0
  | k + 1 => ulK A k + (if alike A k then 0 else 1)
theorem ulK_s {A : ST} {k : Nat} : ulK A (k + 1) = ulK A k + (if alike A k then 0 else 1) := rfl
theorem c_unl {A σ : ST} {d : Nat} (hw : Wf A) (h : RepC A σ) {post : Option AV → ST → Prop} (K : post (some (vI (nI (ulK A (tN A))))) σ) : Ev none (d + 3) m_U_countUnlike 0 [some (vR 8 0), none, none] [] σ post := by
  obtain ⟨⟨eT, hT⟩, _⟩ := hw.2.2.2.2.2.2.1
  have e4 : σ.1 8 0 4 = nI (tN A) := h.2.2.2.2.2.2.1.1.trans eT
  refine sg_U_countUnlike_0 ?_
  refine upto (n := tN A) (P := fun k => Ev none (d + 3) m_U_countUnlike 4 [some (vR 8 0), some (vI (nI (ulK A k))), some (vI (nI k))] [] σ post) ?_ ?_
  · exact sg_U_countUnlike_4 ⟨fun _ => K, fun q => absurd (by rw [e4]; exact Int32.le_refl _) q⟩
  · intro k hk ih
    have hk8 : k < 8 := by omega
    have ht := c_there hw h hk8
    obtain ⟨e, hl⟩ := tc_ix hw hk8
    have hU := h.2.2.2.2.2.2.1.2 k hk8
    have hvk := vpin hk8 (by decide)
    refine sg_U_countUnlike_4 ⟨fun q => ?_, fun _ => ⟨hvk, fun q => ⟨hvk, hvk, ?_⟩, fun q => ?_⟩⟩
    · rw [e4] at q
      exact absurd ((nI_leI (by omega) (by omega)).mp q) (by omega)
    · have q1 := ht.mp q
      rw [nI_ix (show k < 2 ^ 31 by omega), hU.1, hU.2.1, e]
      refine c_tog hw h q1 ⟨_, rfl, hvk, fun z hz => ?_⟩
      rw [hU.2.2] at hz
      have : z = nI (ulK A (k + 1)) := by
        rw [hz, ulK_s]
        by_cases g : tog A (A.1 8 k 1) (tc A k) = A.1 8 k 2
        · rw [if_pos g, if_pos ⟨q1, g⟩, Nat.add_zero]
        · rw [if_neg g, if_neg (fun w => g w.2)]
          exact nI_1 _
      rw [this, nI_1]
      exact ih
    · have : nI (ulK A k) + 1 = nI (ulK A (k + 1)) := by
        rw [ulK_s, if_neg (fun w => q (ht.mpr w.1))]
        exact nI_1 _
      rw [this, nI_1]
      exact ih
theorem m_unl {A σ : ST} {d : Nat} (hw : Wf A) (h : RepM A σ) (hp : Psd A σ) {post : Option AV → ST → Prop} (K : post (some (vI (nI (ulK A (tN A))))) σ) : Ev none (d + 4) m_M_unlikeNow 0 [some (vR 11 0), none, none, none] [] σ post := by
  have h8 := nC_le hw
  obtain ⟨⟨eT, hT⟩, _⟩ := hw.2.2.2.2.2.2.1
  have e4 : σ.1 11 0 29 = nI (tN A) := h.2.2.2.2.2.2.1.1.trans eT
  refine sg_M_unlikeNow_0 ?_
  refine upto (n := tN A) (P := fun k => Ev none (d + 4) m_M_unlikeNow 4 [some (vR 11 0), some (vI (nI (ulK A k))), some (vI (nI k)), none] [] σ post) ?_ ?_
  · exact sg_M_unlikeNow_4 ⟨fun _ => K, fun q => absurd (by rw [e4]; exact Int32.le_refl _) q⟩
  · intro k hk ih
    have hk8 : k < 8 := by omega
    obtain ⟨e, hl⟩ := tc_ix hw hk8
    have hU := h.2.2.2.2.2.2.1.2 k
    have hU0 := hU 0 hk8 (by omega)
    have hU1 := hU 1 hk8 (by omega)
    have hU2 := hU 2 hk8 (by omega)
    have i1 : (3 : Int32) * nI k = nI (3 * k) := ix3m k
    have i2 : nI (3 * k) + 1 = nI (3 * k + 1) := nI_1 _
    have i3 : nI (3 * k) + 2 = nI (3 * k + 2) := nI_add _ 2
    refine sg_M_unlikeNow_4 ⟨fun q => ?_, fun _ => ?_⟩
    · rw [e4] at q
      exact absurd ((nI_leI (by omega) (by omega)).mp q) (by omega)
    rw [i1, i2, i3, nI_ix (show 3 * k < 2 ^ 31 by omega), nI_ix (show 3 * k + 1 < 2 ^ 31 by omega), nI_ix (show 3 * k + 2 < 2 ^ 31 by omega), hU1]
    rw [show 3 * k + 0 = 3 * k from rfl] at hU0
    rw [hU0, e, hp.1, nI_leI (by omega) (by omega), nI_1]
    refine ⟨vpin (by omega) (by decide), fun q z hz => ?_, fun q => ⟨vpin (by omega) (by decide), vpin (by omega) (by decide), ?_⟩⟩
    · have : nI (ulK A k) + z = nI (ulK A (k + 1)) := by
        rw [hz, bi_t rfl, ulK_s, if_neg (fun w => by have := w.1; omega)]
        exact nI_1 _
      rw [this]
      exact ih
    · refine m_tog hw h hp (by omega) ⟨_, rfl, vpin (by omega) (by decide), fun z hz z2 hz2 => ?_⟩
      rw [hU2] at hz
      have : nI (ulK A k) + z2 = nI (ulK A (k + 1)) := by
        rw [hz2, hz, ulK_s]
        by_cases g : tog A (A.1 8 k 1) (tc A k) = A.1 8 k 2
        · rw [if_pos ⟨by omega, g⟩, bi_t g, bi_f (by decide)]
          exact nI_add _ 0
        · rw [if_neg (fun w => g w.2), bi_f g, bi_t rfl]
          exact nI_1 _
      rw [this]
      exact ih
theorem cs_unl {A : ST} {d : Nat} (hw : Wf A) : CS m_O_unlike [some (vR 0 0)] (d + 4) A A (vI (nI (ulK A (tN A)))) := by
  intro σ post h K
  exact sg_O_unlike_0 (c_unl hw h ⟨_, rfl, K σ h (AgM.off (S := []) Off.rf)⟩)
theorem ms_unl {A : ST} {d : Nat} (hw : Wf A) : MSp m_M_unlike [some (vR 11 0)] (d + 5) A A (vI (nI (ulK A (tN A)))) := by
  intro σ post h K
  exact sg_M_unlike_0 (m_reads hw h (fun σ1 h1 h2 h3 => ⟨_, rfl, m_unl hw h1 h2 ⟨_, rfl, K σ1 h1 (AgC.off h3)⟩⟩))
