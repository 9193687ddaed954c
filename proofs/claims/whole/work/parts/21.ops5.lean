-- lose, lay, get, copy
abbrev lost (A : ST) (s : Nat) : Prop := ¬ A.1 9 s 0 = 0
-- lose
def an_lose (A : ST) (a1 : Int32) : Int32 := if rg a1 0 3 then (if lost A a1.toNatClampNeg then -11 else A.1 9 a1.toNatClampNeg 2) else -2
def st_lose (A : ST) (a1 : Int32) : ST := if rg a1 0 3 then (if lost A a1.toNatClampNeg then fnd A 1 else setI A 9 a1.toNatClampNeg 0 1) else A
theorem wf_lose {A : ST} {a1 : Int32} (h : Wf A) : Wf (st_lose A a1) := by
  unfold st_lose
  split
  next hg =>
    split
    next => exact wf_fnd h
    next hl =>
      refine h.putH (hA1 (by decide)) ?_
      have h8 := h.2.2.2.2.2.2.2
      intro b hb
      obtain ⟨u0, u1, u2⟩ := h8 b hb
      rw [setI_if, setI_if, setI_if]
      by_cases hbs : b = a1.toNatClampNeg
      · simp [hbs]
        rw [← hbs]
        exact ⟨u1, u2⟩
      · simp [hbs]
        exact ⟨u0, u1, u2⟩
  next => exact h
theorem wH_size {A : ST} (h : Wf A) {s : Nat} (hs : s < 4) : A.1 9 s 2 = nI (szN A s) ∧ szN A s ≤ 60 := by
  obtain ⟨-, -, w2⟩ := h.2.2.2.2.2.2.2 s hs
  obtain ⟨y, hy, ey⟩ := rg_nI (n := 60) w2
  unfold szN
  rw [ey, nI_ix (by omega)]
  exact ⟨rfl, hy⟩
theorem cs_lose {A : ST} {a1 : Int32} {d : Nat} (hw : Wf A) : CS m_O_lose [some (vR 0 0), some (vI a1), none] (d + 2) A (st_lose A a1) (vI (an_lose A a1)) := by
  intro σ post h K
  unfold an_lose st_lose at K
  by_cases hg : rg a1 0 3
  · rw [if_pos hg, if_pos hg] at K
    refine sg_O_lose_0 ⟨fun _ => ?_, fun g => absurd ((wi 0 3).mpr hg) g⟩
    obtain ⟨s, hs, rfl⟩ := rg_nI (n := 3) hg
    have hv := vpin (show s < 4 by omega) (by decide)
    rw [nI_ix (by omega)] at *
    have h8 := h.2.2.2.2.2.2.2
    obtain ⟨u0, u1⟩ := h8 s (by omega)
    obtain ⟨w0, -, -⟩ := hw.2.2.2.2.2.2.2 s (by omega)
    unfold fs_H_isLost fn_H_isLost fn_H_size
    rw [u0]
    refine ⟨hv, w0, fun g0 => ?_, fun g0 => ?_⟩
    · rw [if_neg (fun q => q g0), if_neg (fun q => q g0)] at K
      refine ⟨hv, hv, sg_H_drop_0 (by omega) ⟨rfl, ?_⟩⟩
      obtain ⟨v1, v2, v3⟩ := u1 g0
      rw [v2]
      have ho : Off [10] σ (setI (setI σ 10 s 1 1) 10 s 3 0) := Off.sI (Off.sI Off.rf (by decide)) (by decide)
      refine K _ (h.putH (hA1 (by decide)) ho ?_) (AgM.off ho)
      intro b hb
      obtain ⟨t0, t1⟩ := h8 b hb
      unfold szN
      simp only [setI_if, sk_k (show (41 : Nat) ≠ 10 by decide), sk_k (show (10 : Nat) ≠ 9 by decide)]
      by_cases hbs : b = s
      · subst hbs
        simp
      · simp [hbs]
        exact ⟨t0, t1⟩
    · rw [if_pos g0, if_pos g0] at K
      exact c_found h (fun σ' h1 h2 => K σ' h1 h2)
  · rw [if_neg hg, if_neg hg] at K
    have K' := K σ h (AgM.off (S := []) Off.rf)
    exact sg_O_lose_0 ⟨fun g0 => absurd ((wi 0 3).mp g0) hg, fun _ => K'⟩
/-- the reference's mark of a lost sheet -/
theorem m_lost {A : ST} (hw : Wf A) {s : Nat} (hs : s < 4) : (0 ≤ (if A.1 9 s 0 = 0 then A.1 9 s 1 else -1)) ↔ A.1 9 s 0 = 0 := by
  obtain ⟨-, w1, -⟩ := hw.2.2.2.2.2.2.2 s hs
  by_cases h0 : A.1 9 s 0 = 0
  · rw [if_pos h0, le_toInt]
    exact ⟨fun _ => h0, fun _ => w1.1⟩
  · rw [if_neg h0]
    exact ⟨fun q => absurd q (by decide), fun q => absurd q h0⟩
theorem ms_lose {A : ST} {a1 : Int32} {d : Nat} (hw : Wf A) : MSp m_M_lose [some (vR 11 0), some (vI a1)] (d + 2) A (st_lose A a1) (vI (an_lose A a1)) := by
  intro σ post h K
  unfold an_lose st_lose at K
  by_cases hg : rg a1 0 3
  · rw [if_pos hg, if_pos hg] at K
    refine sg_M_lose_0 ⟨fun _ => ?_, fun g => absurd ((mi 0 3).mpr hg) g⟩
    obtain ⟨s, hs, rfl⟩ := rg_nI (n := 3) hg
    have hv := vpin (show s < 4 by omega) (by decide)
    rw [nI_ix (by omega)] at *
    have h8 := h.2.2.2.2.2.2.2
    obtain ⟨u0, u1⟩ := h8 s (by omega)
    rw [u0]
    refine ⟨hv, fun g0 => ?_, fun g0 => ?_⟩
    · have g0' := (m_lost hw (by omega)).mp g0
      rw [if_neg (fun q => q g0'), if_neg (fun q => q g0')] at K
      refine ⟨hv, hv, ?_⟩
      rw [sk_k (by decide), (u1 g0').1]
      have ho : OffM [42] [] σ (setI σ 42 0 s (-1)) := OffM.sI OffM.rf (by decide) (by decide)
      refine K _ (h.putH (hA1 (by decide)) ho ?_) (AgC.off ho)
      intro b hb
      obtain ⟨t0, t1⟩ := h8 b hb
      unfold szN
      simp only [setI_if, sk_k (show (43 : Nat) ≠ 42 by decide), sk_k (show (44 : Nat) ≠ 42 by decide), sk_k (show (10 : Nat) ≠ 9 by decide)]
      by_cases hbs : b = s
      · subst hbs
        simp
      · simp [hbs]
        exact ⟨t0, t1⟩
    · have g0' := fun q => g0 ((m_lost hw (by omega)).mpr q)
      rw [if_pos g0', if_pos g0'] at K
      exact m_met' h (fun σ' h1 h2 => K σ' h1 h2)
  · rw [if_neg hg, if_neg hg] at K
    have K' := K σ h (AgC.off (S := []) (F := []) OffM.rf)
    exact sg_M_lose_0 ⟨fun g0 => absurd ((mi 0 3).mp g0) hg, fun _ => K'⟩
-- lay and get
def fdg (A : ST) (s : Nat) (a2 a3 : Int32) : Int32 := if lost A s then 1 else if ¬ A.1 9 s 1 = a2 then 3 else if rg a3 0 ((szN A s : Int) - 1) then 0 else 2
theorem spans1 {σ : ST} {s n : Nat} {a3 : Int32} (hn : n ≤ 60) (e : σ.1 10 s 3 = nI n) : fp_H_spans σ s a3 1 ↔ rg a3 0 ((n : Int) - 1) := by
  unfold fp_H_spans rg
  have e1 : (nI n - 1).toInt = (n : Int) - 1 := by
    rw [sub_toInt, nI_toInt (by omega)]
    · rfl
    · rw [nI_toInt (by omega)]; show _ ≤ (n : Int) - 1; omega
    · rw [nI_toInt (by omega)]; show (n : Int) - 1 < _; omega
  rw [e, Int32.not_lt, Int32.not_lt, Int32.not_lt, le_toInt, le_toInt, le_toInt, e1]
  exact ⟨fun q => ⟨q.1, q.2.2⟩, fun q => ⟨q.1, by decide, q.2⟩⟩
theorem c_fdg {A σ : ST} (hw : Wf A) (h : RepC A σ) {s : Nat} (hs : s < 4) {a2 a3 : Int32} : fs_O_findingAt σ s a2 a3 ∧ fn_O_findingAt σ s a2 a3 = fdg A s a2 a3 := by
  obtain ⟨u0, u1⟩ := h.2.2.2.2.2.2.2 s hs
  obtain ⟨w0, -, -⟩ := hw.2.2.2.2.2.2.2 s hs
  obtain ⟨z1, z2⟩ := wH_size hw hs
  unfold fs_O_findingAt fs_H_isLost fn_O_findingAt fn_H_isLost fn_H_form fdg
  rw [u0]
  refine ⟨w0, ?_⟩
  by_cases h0 : A.1 9 s 0 = 0
  · obtain ⟨v1, v2, v3⟩ := u1 h0
    rw [if_pos h0, v1, if_neg (show ¬ lost A s from fun q => q h0)]
    by_cases h1 : A.1 9 s 1 = a2
    · rw [if_pos h1, if_neg (show ¬ ¬ A.1 9 s 1 = a2 from fun q => q h1)]
      have hsp := spans1 (a3 := a3) z2 (v2.trans z1)
      by_cases h2 : rg a3 0 ((szN A s : Int) - 1)
      · rw [if_pos h2, if_pos (hsp.mpr h2)]
      · rw [if_neg h2, if_neg (fun q => h2 (hsp.mp q))]
    · rw [if_neg h1, if_pos h1]
  · rw [if_neg h0, if_pos h0]
theorem nI_m1 {n : Nat} (hn : n ≤ 60) : (nI n - 1).toInt = (n : Int) - 1 := by
  rw [sub_toInt, nI_toInt (by omega)]
  · rfl
  · rw [nI_toInt (by omega)]; show _ ≤ (n : Int) - 1; omega
  · rw [nI_toInt (by omega)]; show (n : Int) - 1 < _; omega
theorem m_lacks {A σ : ST} (hw : Wf A) (h : RepM A σ) {s : Nat} (hs : s < 4) {a2 a3 : Int32} {d : Nat} {post : Option AV → ST → Prop} (K0 : fdg A s a2 a3 = 0 → post (some (vI 0)) σ) (K1 : ¬ fdg A s a2 a3 = 0 → ∀ σ', RepM (fnd A (fdg A s a2 a3)) σ' → AgC σ σ' → post (some (vI (-10 - fdg A s a2 a3))) σ') :
    Ev none (d + 1) m_M_lacks 0 [some (vR 11 0), some (vI (nI s)), some (vI a2), some (vI a3)] [] σ post := by
  have hv := vpin (show s < 4 by omega) (by decide)
  obtain ⟨u0, u1⟩ := h.2.2.2.2.2.2.2 s hs
  obtain ⟨z1, z2⟩ := wH_size hw hs
  refine sg_M_lacks_0 ?_
  rw [nI_ix (by omega), u0]
  refine ⟨hv, fun g0 => ?_, fun g0 => ?_⟩
  · have h0 := (m_lost hw hs).mp g0
    rw [if_pos h0]
    refine ⟨hv, fun g1 => ?_, fun g1 => ?_⟩
    · obtain ⟨v1, v2⟩ := u1 h0
      rw [v1, z1]
      have hi : fp_M_in σ (Int32.toInt64 a3) (0 : Int64) (Int32.toInt64 (nI (szN A s) - 1)) ↔ rg a3 0 ((szN A s : Int) - 1) := mi 0 ((szN A s : Int) - 1) rfl (by rw [Int32.toInt_toInt64]; exact nI_m1 z2)
      refine ⟨hv, fun g2 => ?_, fun g2 => ?_⟩
      · apply K0
        unfold fdg
        rw [if_neg (fun q => q h0), if_neg (fun q => q g1), if_pos (hi.mp g2)]
      · have e : fdg A s a2 a3 = 2 := by
          unfold fdg
          rw [if_neg (fun q => q h0), if_neg (fun q => q g1), if_neg (fun q => g2 (hi.mpr q))]
        rw [e] at K1
        exact m_met' h (K1 (by decide))
    · have e : fdg A s a2 a3 = 3 := by
        unfold fdg
        rw [if_neg (fun q => q h0), if_pos g1]
      rw [e] at K1
      exact m_met' h (K1 (by decide))
  · have h0 : ¬ A.1 9 s 0 = 0 := fun q => g0 ((m_lost hw hs).mpr q)
    have e : fdg A s a2 a3 = 1 := by
      unfold fdg
      rw [if_pos h0]
    rw [e] at K1
    exact m_met' h (K1 (by decide))
abbrev g_get (a1 a2 : Int32) : Prop := rg a1 0 3 ∧ rg a2 0 2
def an_get (A : ST) (a1 a2 a3 : Int32) : Int32 := if g_get a1 a2 then (if fdg A a1.toNatClampNeg a2 a3 = 0 then A.1 10 a1.toNatClampNeg a3.toNatClampNeg else -2147483648) else -2147483648
def st_get (A : ST) (a1 a2 a3 : Int32) : ST := if g_get a1 a2 then (if fdg A a1.toNatClampNeg a2 a3 = 0 then A else fnd A (fdg A a1.toNatClampNeg a2 a3)) else A
theorem wf_get {A : ST} {a1 a2 a3 : Int32} (h : Wf A) : Wf (st_get A a1 a2 a3) := by
  unfold st_get
  split
  · split
    · exact h
    · exact wf_fnd h
  · exact h
theorem fdg0 {A : ST} {s : Nat} {a2 a3 : Int32} (h : fdg A s a2 a3 = 0) : A.1 9 s 0 = 0 ∧ A.1 9 s 1 = a2 ∧ rg a3 0 ((szN A s : Int) - 1) := by
  unfold fdg at h
  by_cases h0 : A.1 9 s 0 = 0
  · rw [if_neg (fun q => q h0)] at h
    by_cases h1 : A.1 9 s 1 = a2
    · rw [if_neg (fun q => q h1)] at h
      by_cases h2 : rg a3 0 ((szN A s : Int) - 1)
      · exact ⟨h0, h1, h2⟩
      · rw [if_neg h2] at h
        exact absurd h (by decide)
    · rw [if_pos h1] at h
      exact absurd h (by decide)
  · rw [if_pos h0] at h
    exact absurd h (by decide)
theorem fdg_ix {A : ST} {s : Nat} {a3 : Int32} (hw : Wf A) (hs : s < 4) (h : rg a3 0 ((szN A s : Int) - 1)) : ∃ j : Nat, j < szN A s ∧ j < 60 ∧ a3 = nI j := by
  obtain ⟨z1, z2⟩ := wH_size hw hs
  obtain ⟨j, hj, rfl⟩ := rg_nI (n := 60) (a := a3) ⟨h.1, by have := h.2; omega⟩
  have := h.2
  rw [nI_toInt (by omega)] at this
  exact ⟨j, by omega, by omega, rfl⟩
theorem cs_get {A : ST} {a1 a2 a3 : Int32} {d : Nat} (hw : Wf A) : CS m_O_get [some (vR 0 0), some (vI a1), some (vI a2), some (vI a3), none] (d + 2) A (st_get A a1 a2 a3) (vI (an_get A a1 a2 a3)) := by
  intro σ post h K
  unfold an_get st_get at K
  by_cases hg : g_get a1 a2
  · rw [if_pos hg, if_pos hg] at K
    refine sg_O_get_0 ⟨fun _ => ?_, fun g => absurd ⟨(wi 0 3).mpr hg.1, (wi 0 2).mpr hg.2⟩ g⟩
    obtain ⟨s, hs, rfl⟩ := rg_nI (n := 3) hg.1
    have hv := vpin (show s < 4 by omega) (by decide)
    rw [nI_ix (by omega)] at *
    obtain ⟨f1, f2⟩ := c_fdg hw h (s := s) (by omega) (a2 := a2) (a3 := a3)
    rw [f2]
    refine ⟨hv, f1, fun g0 => ?_, fun g0 => ?_⟩
    · rw [if_pos g0, if_pos g0] at K
      obtain ⟨k0, k1, k2⟩ := fdg0 g0
      obtain ⟨j, j1, j2, rfl⟩ := fdg_ix hw (by omega) k2
      refine ⟨hv, vpin j2 (by decide), ?_⟩
      unfold fn_H_item
      rw [nI_ix (by omega)] at *
      rw [((h.2.2.2.2.2.2.2 s (by omega)).2 k0).2.2 j j1]
      exact K σ h (AgM.off (S := []) Off.rf)
    · rw [if_neg g0, if_neg g0] at K
      have ho : Off [0] σ (setI σ 0 0 11 (fdg A s a2 a3)) := Off.sI Off.rf (by decide)
      refine K _ (h.putO (hA1 (by decide)) ho ?_) (AgM.off ho)
      have h6 := h.2.2.2.2.2.1
      unfold cO fnd at *
      rw [setI_at, setI_at, sk_f (by decide), sk_f (by decide), sk_k (by decide)]
      exact ⟨h6.1, h6.2.1, rfl⟩
  · rw [if_neg hg, if_neg hg] at K
    have K' := K σ h (AgM.off (S := []) Off.rf)
    exact sg_O_get_0 ⟨fun g0 => absurd ⟨(wi 0 3).mp g0.1, (wi 0 2).mp g0.2⟩ hg, fun _ => K'⟩
theorem ms_get {A : ST} {a1 a2 a3 : Int32} {d : Nat} (hw : Wf A) : MSp m_M_get [some (vR 11 0), some (vI a1), some (vI a2), some (vI a3)] (d + 2) A (st_get A a1 a2 a3) (vI (an_get A a1 a2 a3)) := by
  intro σ post h K
  unfold an_get st_get at K
  by_cases hg : g_get a1 a2
  · rw [if_pos hg, if_pos hg] at K
    have hno : ¬ (¬ fp_M_isSheet σ a1 ∨ ¬ fp_M_in σ (Int32.toInt64 a2) (0 : Int64) (2 : Int64)) := by
      rintro (q | q)
      · exact q ((mi 0 3).mpr hg.1)
      · exact q ((mi 0 2).mpr hg.2)
    refine sg_M_get_0 ⟨fun g => absurd g hno, fun _ => ?_⟩
    obtain ⟨s, hs, rfl⟩ := rg_nI (n := 3) hg.1
    rw [nI_ix (by omega)] at *
    refine m_lacks hw h (by omega) (fun g0 => ?_) (fun g0 σ' h1 h2 => ?_)
    · rw [if_pos g0, if_pos g0] at K
      obtain ⟨k0, k1, k2⟩ := fdg0 g0
      obtain ⟨j, j1, j2, rfl⟩ := fdg_ix hw (by omega) k2
      refine ⟨_, rfl, fun _ => ?_, fun q => absurd rfl q⟩
      rw [ix60, nI_ix (by omega)]
      rw [nI_ix (by omega)] at K
      rw [((h.2.2.2.2.2.2.2 s (by omega)).2 k0).2 j j1]
      exact ⟨vpin (by omega) (by decide), K σ h (AgC.off (S := []) (F := []) OffM.rf)⟩
    · rw [if_neg g0, if_neg g0] at K
      refine ⟨_, rfl, fun q => ?_, fun _ => K σ' h1 h2⟩
      exfalso
      unfold fdg at q
      split at q
      · exact absurd q (by decide)
      · split at q
        · exact absurd q (by decide)
        · split at q <;> exact absurd q (by decide)
  · rw [if_neg hg, if_neg hg] at K
    have K' := K σ h (AgC.off (S := []) (F := []) OffM.rf)
    refine sg_M_get_0 ⟨fun _ => K', fun g => ?_⟩
    exfalso
    apply g
    by_cases q : rg a1 0 3
    · exact Or.inr (fun z => hg ⟨q, (mi 0 2).mp z⟩)
    · exact Or.inl (fun z => q ((mi 0 3).mp z))
def nrw (a2 a4 : Int32) : Int32 := if a2 = 0 then (Int32.toInt8 a4).toInt32 else (if a2 = 1 then (Int32.toInt16 a4).toInt32 else a4)
def an_lay (A : ST) (a1 a2 a3 : Int32) : Int32 := if g_get a1 a2 then (if fdg A a1.toNatClampNeg a2 a3 = 0 then 1 else -10 - fdg A a1.toNatClampNeg a2 a3) else -2
def st_lay (A : ST) (a1 a2 a3 a4 : Int32) : ST := if g_get a1 a2 then (if fdg A a1.toNatClampNeg a2 a3 = 0 then setI A 10 a1.toNatClampNeg a3.toNatClampNeg (nrw a2 a4) else fnd A (fdg A a1.toNatClampNeg a2 a3)) else A
theorem wH_10 {A A' : ST} (h : wH A) (e : A'.1 9 = A.1 9) : wH A' := by
  unfold wH at *
  rw [e]
  exact h
theorem wf_lay {A : ST} {a1 a2 a3 a4 : Int32} (h : Wf A) : Wf (st_lay A a1 a2 a3 a4) := by
  unfold st_lay
  split
  · split
    · exact h.putH (hA1 (by decide)) (wH_10 h.2.2.2.2.2.2.2 (sk_k (by decide)))
    · exact wf_fnd h
  · exact h
theorem cs_lay {A : ST} {a1 a2 a3 a4 : Int32} {d : Nat} (hw : Wf A) : CS m_O_lay [some (vR 0 0), some (vI a1), some (vI a2), some (vI a3), some (vI a4), none] (d + 2) A (st_lay A a1 a2 a3 a4) (vI (an_lay A a1 a2 a3)) := by
  intro σ post h K
  unfold an_lay st_lay at K
  by_cases hg : g_get a1 a2
  · rw [if_pos hg, if_pos hg] at K
    refine sg_O_lay_0 ⟨fun _ => ?_, fun g => absurd ⟨(wi 0 3).mpr hg.1, (wi 0 2).mpr hg.2⟩ g⟩
    obtain ⟨s, hs, rfl⟩ := rg_nI (n := 3) hg.1
    have hv := vpin (show s < 4 by omega) (by decide)
    rw [nI_ix (by omega)] at *
    obtain ⟨f1, f2⟩ := c_fdg hw h (s := s) (by omega) (a2 := a2) (a3 := a3)
    rw [f2]
    refine ⟨hv, f1, fun g0 => ?_, fun g0 => ?_⟩
    · rw [if_pos g0, if_pos g0] at K
      obtain ⟨k0, k1, k2⟩ := fdg0 g0
      obtain ⟨j, j1, j2, rfl⟩ := fdg_ix hw (by omega) k2
      have h8 := h.2.2.2.2.2.2.2
      refine ⟨hv, sg_H_put_0 (by omega) ⟨vpin j2 (by decide), rfl, ?_⟩⟩
      have e : fn_H_narrow σ s a4 = nrw a2 a4 := by
        unfold fn_H_narrow nrw
        rw [((h8 s (by omega)).2 k0).1, k1]
      rw [e, nI_ix (by omega)] at *
      have ho : Off [41] σ (setI σ 41 s j (nrw a2 a4)) := Off.sI Off.rf (by decide)
      refine K _ (h.putH (hA1 (by decide)) ho ?_) (AgM.off ho)
      intro b hb
      obtain ⟨t0, t1⟩ := h8 b hb
      unfold szN
      rw [sk_k (by decide), sk_k (by decide)]
      refine ⟨t0, fun q => ?_⟩
      obtain ⟨v1, v2, v3⟩ := t1 q
      refine ⟨v1, v2, fun x hx => ?_⟩
      rw [setI_if, setI_if, v3 x hx]
    · rw [if_neg g0, if_neg g0] at K
      exact c_found h (fun σ' h1 h2 => K σ' h1 h2)
  · rw [if_neg hg, if_neg hg] at K
    have K' := K σ h (AgM.off (S := []) Off.rf)
    exact sg_O_lay_0 ⟨fun g0 => absurd ⟨(wi 0 3).mp g0.1, (wi 0 2).mp g0.2⟩ hg, fun _ => K'⟩
theorem ms_lay {A : ST} {a1 a2 a3 a4 : Int32} {d : Nat} (hw : Wf A) : MSp m_M_lay [some (vR 11 0), some (vI a1), some (vI a2), some (vI a3), some (vI a4), none] (d + 2) A (st_lay A a1 a2 a3 a4) (vI (an_lay A a1 a2 a3)) := by
  intro σ post h K
  unfold an_lay st_lay at K
  by_cases hg : g_get a1 a2
  · rw [if_pos hg, if_pos hg] at K
    refine sg_M_lay_0 ⟨fun _ => ?_, fun g => absurd ⟨(mi 0 3).mpr hg.1, (mi 0 2).mpr hg.2⟩ g⟩
    obtain ⟨s, hs, rfl⟩ := rg_nI (n := 3) hg.1
    rw [nI_ix (by omega)] at *
    refine m_lacks hw h (by omega) (fun g0 => ?_) (fun g0 σ' h1 h2 => ?_)
    · rw [if_pos g0, if_pos g0] at K
      obtain ⟨k0, k1, k2⟩ := fdg0 g0
      obtain ⟨j, j1, j2, rfl⟩ := fdg_ix hw (by omega) k2
      refine ⟨_, rfl, fun _ => ?_, fun q => absurd rfl q⟩
      rw [ix60, nI_ix (by omega)]
      rw [nI_ix (by omega)] at K
      refine ⟨vpin (by omega) (by decide), ?_⟩
      have h8 := h.2.2.2.2.2.2.2
      have ho : OffM [44] [] σ (setI σ 44 0 (60 * s + j) (fn_M_cut σ a2 a4)) := OffM.sI OffM.rf (by decide) (by decide)
      refine K _ (h.putH (hA1 (by decide)) ho ?_) (AgC.off ho)
      intro b hb
      obtain ⟨t0, t1⟩ := h8 b hb
      obtain ⟨-, zb⟩ := wH_size hw hb
      unfold szN at *
      rw [sk_k (by decide), sk_k (by decide), sk_k (by decide)]
      refine ⟨t0, fun q => ?_⟩
      obtain ⟨v1, v2⟩ := t1 q
      refine ⟨v1, fun x hx => ?_⟩
      rw [setI_if, setI_if, v2 x hx]
      have e : (0 = 0 ∧ 60 * b + x = 60 * s + j) ↔ (b = s ∧ x = j) := by omega
      by_cases q2 : b = s ∧ x = j
      · rw [if_pos q2, if_pos (e.mpr q2)]; rfl
      · rw [if_neg q2, if_neg (fun z => q2 (e.mp z))]
    · rw [if_neg g0, if_neg g0] at K
      refine ⟨_, rfl, fun q => ?_, fun _ => K σ' h1 h2⟩
      exfalso
      unfold fdg at q
      split at q
      · exact absurd q (by decide)
      · split at q
        · exact absurd q (by decide)
        · split at q <;> exact absurd q (by decide)
  · rw [if_neg hg, if_neg hg] at K
    have K' := K σ h (AgC.off (S := []) (F := []) OffM.rf)
    exact sg_M_lay_0 ⟨fun g0 => absurd ⟨(mi 0 3).mp g0.1, (mi 0 2).mp g0.2⟩ hg, fun _ => K'⟩
