-- the first acts: set, skip, like, pace, reader, forget, turn
def CS (m : MD) (L : List (Option AV)) (dO : Nat) (A A' : ST) (z : AV) : Prop := ∀ (σ : ST) (post : Option AV → ST → Prop), RepC A σ → (∀ σ', RepC A' σ' → AgM σ σ' → post (some z) σ') → Ev none dO m 0 L [] σ post
def MSp (m : MD) (L : List (Option AV)) (dO : Nat) (A A' : ST) (z : AV) : Prop := ∀ (σ : ST) (post : Option AV → ST → Prop), RepM A σ → (∀ σ', RepM A' σ' → AgC σ σ' → post (some z) σ') → Ev none dO m 0 L [] σ post
theorem sk_k {σ : ST} {k i f : Nat} {v : Int32} {a : Nat} (h : a ≠ k) : (setI σ k i f v).1 a = σ.1 a := by
  funext b c
  exact setI_ne σ k i f v (fun q => h q.1)
theorem sk_i {σ : ST} {k i f : Nat} {v : Int32} {b : Nat} (h : b ≠ i) : (setI σ k i f v).1 k b = σ.1 k b := by
  funext c
  exact setI_ne σ k i f v (fun q => h q.2.1)
theorem sk_f {σ : ST} {k i f : Nat} {v : Int32} {c : Nat} (h : c ≠ f) : (setI σ k i f v).1 k i c = σ.1 k i c := setI_ne σ k i f v (fun q => h q.2.2)
theorem setI_if (σ : ST) (k i f : Nat) (v : Int32) (b c : Nat) : (setI σ k i f v).1 k b c = if b = i ∧ c = f then v else σ.1 k b c := by
  simp [setI]
theorem hA1 {A : ST} {k i f : Nat} {v : Int32} {S : List Nat} (hk : k ∈ S) : ∀ a, a ∉ S → (setI A k i f v).1 a = A.1 a := fun a ha => sk_k (fun q => ha (q ▸ hk))
-- set
abbrev g_set (a1 a2 : Int32) : Prop := rg a1 0 1 ∧ rg a2 0 999
def an_set (A : ST) (a1 a2 : Int32) : Int32 := if g_set a1 a2 then A.1 6 0 a1.toNatClampNeg else -2
def st_set (A : ST) (a1 a2 : Int32) : ST := if g_set a1 a2 then setI A 6 0 a1.toNatClampNeg a2 else A
theorem wf_set {A : ST} {a1 a2 : Int32} (h : Wf A) : Wf (st_set A a1 a2) := by
  unfold st_set
  split
  next hg =>
    obtain ⟨j, hj, rfl⟩ := rg_nI (n := 1) hg.1
    rw [nI_ix (by omega)]
    refine h.putO (hA1 (by decide)) ?_
    have h6 := h.2.2.2.2.2.1
    unfold wO at *
    rw [setI_if, setI_if]
    rcases (show j = 0 ∨ j = 1 by omega) with rfl | rfl
    · exact ⟨hg.2, h6.2⟩
    · exact ⟨h6.1, hg.2⟩
  next => exact h
theorem cs_set {A : ST} {a1 a2 : Int32} {d : Nat} : CS m_O_set [some (vR 0 0), some (vI a1), some (vI a2), none] (d + 1) A (st_set A a1 a2) (vI (an_set A a1 a2)) := by
  intro σ post h K
  unfold an_set st_set at K
  by_cases hg : g_set a1 a2
  · rw [if_pos hg, if_pos hg] at K
    refine sg_O_set_0 ⟨fun _ => ⟨fun _ => ?_, fun g => absurd ((wi 0 999).mpr hg.2) g⟩, fun g => absurd ((wi 0 1).mpr hg.1) g⟩
    obtain ⟨j, hj, rfl⟩ := rg_nI (n := 1) hg.1
    rw [nI_ix (by omega)] at K
    have h6 := h.2.2.2.2.2.1
    intro z hz
    rcases (show j = 0 ∨ j = 1 by omega) with rfl | rfl
    · refine ⟨fun _ => ?_, fun e => absurd rfl e⟩
      rw [hz, if_pos (show nI 0 = 0 from rfl), h6.1]
      refine K _ (h.putO (S := [0]) (hA1 (by decide)) (Off.sI Off.rf (by decide)) ?_) (AgM.off (S := [0]) (Off.sI Off.rf (by decide)))
      unfold cO at *
      simp only [setI_if, sk_k (show (11 : Nat) ≠ 6 by decide)]
      exact ⟨rfl, h6.2.1, h6.2.2⟩
    · refine ⟨fun e => absurd e (by decide), fun _ => ?_⟩
      rw [hz, if_neg (show ¬ nI 1 = 0 by decide), h6.2.1]
      refine K _ (h.putO (S := [0]) (hA1 (by decide)) (Off.sI Off.rf (by decide)) ?_) (AgM.off (S := [0]) (Off.sI Off.rf (by decide)))
      unfold cO at *
      simp only [setI_if, sk_k (show (11 : Nat) ≠ 6 by decide)]
      exact ⟨h6.1, rfl, h6.2.2⟩
  · rw [if_neg hg, if_neg hg] at K
    have K' := K σ h (AgM.off (S := []) Off.rf)
    exact sg_O_set_0 ⟨fun g1 => ⟨fun g2 => absurd ⟨(wi 0 1).mp g1, (wi 0 999).mp g2⟩ hg, fun _ => K'⟩, fun _ => K'⟩
theorem ms_set {A : ST} {a1 a2 : Int32} {d : Nat} : MSp m_M_set [some (vR 11 0), some (vI a1), some (vI a2), none] (d + 2) A (st_set A a1 a2) (vI (an_set A a1 a2)) := by
  intro σ post h K
  unfold an_set st_set at K
  by_cases hg : g_set a1 a2
  · rw [if_pos hg, if_pos hg] at K
    refine sg_M_set_0 ⟨fun _ => ?_, fun g => absurd ⟨(mi 0 1).mpr hg.1, (mi 0 999).mpr hg.2⟩ g⟩
    obtain ⟨j, hj, rfl⟩ := rg_nI (n := 1) hg.1
    have hv := vpin (show j < 2 by omega) (by decide)
    rw [nI_ix (by omega)] at *
    have h6 := h.2.2.2.2.2.1
    refine ⟨hv, hv, ?_⟩
    have e : σ.1 54 0 j = A.1 6 0 j := by
      rcases (show j = 0 ∨ j = 1 by omega) with rfl | rfl
      · exact h6.1
      · exact h6.2.1
    rw [e]
    refine K _ (h.putO (S := [54]) (F := []) (hA1 (by decide)) (OffM.sI OffM.rf (by decide) (by decide)) ?_) (AgC.off (S := [54]) (F := []) (OffM.sI OffM.rf (by decide) (by decide)))
    unfold mO at *
    simp only [setI_if, sk_k (show (11 : Nat) ≠ 6 by decide), sk_k (show (11 : Nat) ≠ 54 by decide)]
    rcases (show j = 0 ∨ j = 1 by omega) with rfl | rfl
    · exact ⟨rfl, h6.2.1, h6.2.2⟩
    · exact ⟨h6.1, rfl, h6.2.2⟩
  · rw [if_neg hg, if_neg hg] at K
    have K' := K σ h (AgC.off (S := []) (F := []) OffM.rf)
    exact sg_M_set_0 ⟨fun g => absurd ⟨(mi 0 1).mp g.1, (mi 0 999).mp g.2⟩ hg, fun _ => K'⟩
-- pace
abbrev g_pace (a1 a2 a3 : Int32) : Prop := rg a1 0 5 ∧ rg a2 0 2 ∧ rg a3 1 9
def an_pace (A : ST) (a1 a2 a3 : Int32) : Int32 := if g_pace a1 a2 a3 then A.1 2 a1.toNatClampNeg a2.toNatClampNeg else -2
def st_pace (A : ST) (a1 a2 a3 : Int32) : ST := if g_pace a1 a2 a3 then setI A 2 a1.toNatClampNeg a2.toNatClampNeg a3 else A
theorem wf_pace {A : ST} {a1 a2 a3 : Int32} (h : Wf A) : Wf (st_pace A a1 a2 a3) := by
  unfold st_pace
  split
  next hg =>
    refine h.putP (hA1 (by decide)) ?_
    have h6 := h.2.1
    intro r k hr hk
    rw [setI_if]
    split
    · exact hg.2.2
    · exact h6 r k hr hk
  next => exact h
theorem cs_pace {A : ST} {a1 a2 a3 : Int32} {d : Nat} : CS m_O_pace [some (vR 0 0), some (vI a1), some (vI a2), some (vI a3)] (d + 2) A (st_pace A a1 a2 a3) (vI (an_pace A a1 a2 a3)) := by
  intro σ post h K
  unfold an_pace st_pace at K
  by_cases hg : g_pace a1 a2 a3
  · rw [if_pos hg, if_pos hg] at K
    refine sg_O_pace_0 ⟨fun _ => ?_, fun g => absurd ⟨(wi 0 5).mpr hg.1, (wi 0 2).mpr hg.2.1, (wi 1 9).mpr hg.2.2⟩ g⟩
    obtain ⟨r, hr, rfl⟩ := rg_nI (n := 5) hg.1
    obtain ⟨k, hk, rfl⟩ := rg_nI (n := 2) hg.2.1
    have hv := vpin (show r < 6 by omega) (by decide)
    have hv2 := vpin (show k < 3 by omega) (by decide)
    refine ⟨hv, ?_⟩
    show Ev none (d + 1) m_R_changePace 0 [some (vR 3 (nI r).toNatClampNeg), _, _, _] [] σ _
    rw [nI_ix (show r < 2 ^ 31 by omega)] at *
    refine sg_R_changePace_0 (by omega) ⟨hv2, hv2, _, rfl, ?_⟩
    rw [nI_ix (show k < 2 ^ 31 by omega)] at *
    rw [h.2.1 r k (by omega) (by omega)]
    refine K _ (h.putP (S := [17]) (hA1 (by decide)) (Off.sI Off.rf (by decide)) ?_) (AgM.off (S := [17]) (Off.sI Off.rf (by decide)))
    intro r' k' hr' hk'
    rw [setI_if, setI_if, h.2.1 r' k' hr' hk']
  · rw [if_neg hg, if_neg hg] at K
    have K' := K σ h (AgM.off (S := []) Off.rf)
    exact sg_O_pace_0 ⟨fun g => absurd ⟨(wi 0 5).mp g.1, (wi 0 2).mp g.2.1, (wi 1 9).mp g.2.2⟩ hg, fun _ => K'⟩
theorem ix3 {r k : Nat} (hr : r < 6) (hk : k < 3) : (3 : Int32) * nI r + nI k = nI (3 * r + k) := by
  rw [show (3 : Int32) = nI 3 from rfl, pk_mul, nI_add]
theorem ms_pace {A : ST} {a1 a2 a3 : Int32} {d : Nat} : MSp m_M_pace [some (vR 11 0), some (vI a1), some (vI a2), some (vI a3), none] (d + 2) A (st_pace A a1 a2 a3) (vI (an_pace A a1 a2 a3)) := by
  intro σ post h K
  unfold an_pace st_pace at K
  by_cases hg : g_pace a1 a2 a3
  · rw [if_pos hg, if_pos hg] at K
    refine sg_M_pace_0 ⟨fun _ => ?_, fun g => absurd ⟨(mi 0 5).mpr hg.1, (mi 0 2).mpr hg.2.1, (mi 1 9).mpr hg.2.2⟩ g⟩
    obtain ⟨r, hr, rfl⟩ := rg_nI (n := 5) hg.1
    obtain ⟨k, hk, rfl⟩ := rg_nI (n := 2) hg.2.1
    rw [ix3 (by omega) (by omega)]
    have hv := vpin (show 3 * r + k < 18 by omega) (by decide)
    refine ⟨hv, hv, ?_⟩
    rw [nI_ix (show r < 2 ^ 31 by omega), nI_ix (show k < 2 ^ 31 by omega)] at K
    rw [nI_ix (by omega), h.2.1 r k (by omega) (by omega)]
    refine K _ (h.putP (S := [49]) (F := []) (hA1 (by decide)) (OffM.sI OffM.rf (by decide) (by decide)) ?_) (AgC.off (S := [49]) (F := []) (OffM.sI OffM.rf (by decide) (by decide)))
    intro r' k' hr' hk'
    rw [setI_if, setI_if, h.2.1 r' k' hr' hk']
    have e : (0 = 0 ∧ 3 * r' + k' = 3 * r + k) ↔ (r' = r ∧ k' = k) := by omega
    by_cases q : r' = r ∧ k' = k
    · rw [if_pos q, if_pos (e.mpr q)]
    · rw [if_neg q, if_neg (fun z => q (e.mp z))]
  · rw [if_neg hg, if_neg hg] at K
    have K' := K σ h (AgC.off (S := []) (F := []) OffM.rf)
    exact sg_M_pace_0 ⟨fun g => absurd ⟨(mi 0 5).mp g.1, (mi 0 2).mp g.2.1, (mi 1 9).mp g.2.2⟩ hg, fun _ => K'⟩
