-- forget, turn
def st_forget (A : ST) : ST := setI A 7 0 0 0
theorem wf_forget {A : ST} (h : Wf A) : Wf (st_forget A) := by
  refine h.putU (hA1 (by decide)) ?_
  have h7 := h.2.2.2.2.2.2.1
  unfold wU tN st_forget at *
  rw [setI_at, sk_k (by decide)]
  exact ⟨⟨rfl, by decide⟩, h7.2⟩
theorem cs_forget {A : ST} {d : Nat} : CS m_O_forget [some (vR 0 0), none] (d + 1) A (st_forget A) (vI (A.1 7 0 0)) := by
  intro σ post h K
  have h7 := h.2.2.2.2.2.2.1
  refine sg_O_forget_0 (sg_U_clear_0 ⟨rfl, ?_⟩)
  unfold fn_U_size
  rw [h7.1]
  refine K _ (h.putU (S := [8]) (hA1 (by decide)) (Off.sI Off.rf (by decide)) ?_) (AgM.off (S := [8]) (Off.sI Off.rf (by decide)))
  unfold cU st_forget at *
  rw [setI_at, setI_at, sk_k (by decide), sk_k (by decide), sk_k (by decide), sk_k (by decide)]
  exact ⟨rfl, h7.2⟩
theorem ms_forget {A : ST} {d : Nat} : MSp m_M_forget [some (vR 11 0), none] d A (st_forget A) (vI (A.1 7 0 0)) := by
  intro σ post h K
  have h7 := h.2.2.2.2.2.2.1
  refine sg_M_forget_0 ?_
  rw [h7.1]
  refine K _ (h.putU (S := []) (F := [29]) (hA1 (by decide)) (OffM.sF OffM.rf (by decide)) ?_) (AgC.off (S := []) (F := [29]) (OffM.sF OffM.rf (by decide)))
  unfold mU st_forget at *
  rw [setI_at, setI_at, sk_k (by decide), sk_k (by decide)]
  exact ⟨rfl, h7.2⟩
abbrev g_turn (a1 a2 a3 : Int32) : Prop := rg a1 0 7 ∧ rg a2 1 63 ∧ rg a3 0 999
def tput (A : ST) (a1 a2 a3 : Int32) : ST := setI (setI (setI (setI A 8 (tN A) 0 a1) 8 (tN A) 1 a2) 8 (tN A) 2 a3) 7 0 0 (nI (tN A + 1))
def an_turn (A : ST) (a1 a2 a3 : Int32) : Int32 := if g_turn a1 a2 a3 then (if tN A = 8 then -4 else nI (tN A + 1)) else -2
def st_turn (A : ST) (a1 a2 a3 : Int32) : ST := if g_turn a1 a2 a3 then (if tN A = 8 then A else tput A a1 a2 a3) else A
theorem tput_A {A : ST} {a1 a2 a3 : Int32} : ∀ k, k ∉ ([7, 8] : List Nat) → (tput A a1 a2 a3).1 k = A.1 k := by
  intro k hk
  unfold tput
  have h7 : k ≠ 7 := fun q => hk (by rw [q]; decide)
  have h8 : k ≠ 8 := fun q => hk (by rw [q]; decide)
  rw [sk_k h7, sk_k h8, sk_k h8, sk_k h8]
theorem tput_7 {A : ST} {a1 a2 a3 : Int32} : (tput A a1 a2 a3).1 7 0 0 = nI (tN A + 1) := by unfold tput; rw [setI_at]
theorem tput_8 {A : ST} {a1 a2 a3 : Int32} (k t : Nat) : (tput A a1 a2 a3).1 8 k t = if k = tN A ∧ t = 2 then a3 else if k = tN A ∧ t = 1 then a2 else if k = tN A ∧ t = 0 then a1 else A.1 8 k t := by
  unfold tput
  rw [sk_k (by decide), setI_if, setI_if, setI_if]
theorem wf_turn {A : ST} {a1 a2 a3 : Int32} (h : Wf A) : Wf (st_turn A a1 a2 a3) := by
  unfold st_turn
  split
  next hg =>
    split
    next => exact h
    next hn =>
      refine h.putU tput_A ?_
      have h7 := h.2.2.2.2.2.2.1
      have hl : tN A ≤ 8 := h7.1.2
      refine ⟨?_, fun k hk => ?_⟩
      · have e : tN (tput A a1 a2 a3) = tN A + 1 := by
          show ((tput A a1 a2 a3).1 7 0 0).toNatClampNeg = _
          rw [tput_7, nI_ix (by omega)]
        rw [tput_7, e]
        exact ⟨rfl, by omega⟩
      · obtain ⟨u0, u1, u2⟩ := h7.2 k hk
        rw [tput_8, tput_8, tput_8]
        have g2 : rg a2 0 63 := ⟨by have := hg.2.1.1; omega, hg.2.1.2⟩
        by_cases hk2 : k = tN A
        · simp [hk2]
          exact ⟨hg.1, g2, hg.2.2⟩
        · simp [hk2]
          exact ⟨u0, u1, u2⟩
  next => exact h
theorem cs_turn {A : ST} {a1 a2 a3 : Int32} {d : Nat} (hw : Wf A) : CS m_O_turn [some (vR 0 0), some (vI a1), some (vI a2), some (vI a3)] (d + 2) A (st_turn A a1 a2 a3) (vI (an_turn A a1 a2 a3)) := by
  intro σ post h K
  unfold an_turn st_turn at K
  have hw7 := hw.2.2.2.2.2.2.1
  have h7 := h.2.2.2.2.2.2.1
  have hl : tN A ≤ 8 := hw7.1.2
  have e4 : σ.1 8 0 4 = nI (tN A) := h7.1.trans hw7.1.1
  by_cases hg : g_turn a1 a2 a3
  · rw [if_pos hg, if_pos hg] at K
    refine sg_O_turn_0 ⟨fun _ => ?_, fun g => absurd ⟨(wi 0 7).mpr hg.1, (wi 1 63).mpr hg.2.1, (wi 0 999).mpr hg.2.2⟩ g⟩
    refine sg_U_append_0 ?_
    rw [e4]
    refine ⟨fun g => ?_, fun g => ?_⟩
    · have hlt : tN A < 8 := (nI_ltI (by omega) (by decide)).mp g
      rw [if_neg (by omega), if_neg (by omega)] at K
      have hv := vpin (show tN A < 8 by omega) (by decide)
      simp only [sk_k (show (8 : Nat) ≠ 32 by decide), sk_k (show (8 : Nat) ≠ 33 by decide), sk_k (show (8 : Nat) ≠ 34 by decide), e4, nI_ix (show tN A < 2 ^ 31 by omega)]
      refine ⟨hv, hv, hv, _, rfl, fun q => absurd q (by decide), fun _ => ?_⟩
      unfold fn_U_size
      rw [setI_at, nI_1]
      refine K _ (h.putU (S := [8, 32, 33, 34]) tput_A (Off.sI (Off.sI (Off.sI (Off.sI Off.rf (by decide)) (by decide)) (by decide)) (by decide)) ?_) (AgM.off (S := [8, 32, 33, 34]) (Off.sI (Off.sI (Off.sI (Off.sI Off.rf (by decide)) (by decide)) (by decide)) (by decide)))
      refine ⟨?_, fun k hk => ?_⟩
      · rw [setI_at, tput_7]
      · obtain ⟨u0, u1, u2⟩ := h7.2 k hk
        rw [tput_8, tput_8, tput_8]
        simp only [sk_k (show (32 : Nat) ≠ 8 by decide), sk_k (show (33 : Nat) ≠ 8 by decide), sk_k (show (34 : Nat) ≠ 8 by decide), sk_k (show (32 : Nat) ≠ 33 by decide), sk_k (show (32 : Nat) ≠ 34 by decide), sk_k (show (33 : Nat) ≠ 32 by decide), sk_k (show (33 : Nat) ≠ 34 by decide), sk_k (show (34 : Nat) ≠ 32 by decide), sk_k (show (34 : Nat) ≠ 33 by decide), setI_if, u0, u1, u2]
        by_cases hk2 : k = tN A
        · simp [hk2]
        · simp [hk2]
    · have hlt : ¬ tN A < 8 := fun q => g ((nI_ltI (by omega) (by decide)).mpr q)
      rw [if_pos (by omega), if_pos (by omega)] at K
      exact ⟨_, rfl, fun _ => K σ h (AgM.off (S := []) Off.rf), fun q => absurd rfl q⟩
  · rw [if_neg hg, if_neg hg] at K
    have K' := K σ h (AgM.off (S := []) Off.rf)
    exact sg_O_turn_0 ⟨fun g => absurd ⟨(wi 0 7).mp g.1, (wi 1 63).mp g.2.1, (wi 0 999).mp g.2.2⟩ hg, fun _ => K'⟩
theorem ix3m (k : Nat) : (3 : Int32) * nI k = nI (3 * k) := by rw [show (3 : Int32) = nI 3 from rfl, pk_mul]
theorem ms_turn {A : ST} {a1 a2 a3 : Int32} {d : Nat} (hw : Wf A) : MSp m_M_turn [some (vR 11 0), some (vI a1), some (vI a2), some (vI a3)] (d + 2) A (st_turn A a1 a2 a3) (vI (an_turn A a1 a2 a3)) := by
  intro σ post h K
  unfold an_turn st_turn at K
  have hw7 := hw.2.2.2.2.2.2.1
  have h7 := h.2.2.2.2.2.2.1
  have hl : tN A ≤ 8 := hw7.1.2
  have e4 : σ.1 11 0 29 = nI (tN A) := h7.1.trans hw7.1.1
  by_cases hg : g_turn a1 a2 a3
  · rw [if_pos hg, if_pos hg] at K
    refine sg_M_turn_0 ⟨fun _ => ⟨fun _ => ⟨fun _ => ?_, fun g => absurd ((mi 0 999).mpr hg.2.2) g⟩, fun g => absurd ((mi 1 63).mpr hg.2.1) g⟩, fun g => absurd ((mi 0 7).mpr hg.1) g⟩
    simp only [sk_k (show (11 : Nat) ≠ 60 by decide), e4]
    refine ⟨fun g => ?_, fun g => ?_⟩
    · have : tN A = 8 := (nI_eq (by omega) (by decide)).mp g
      rw [if_pos this, if_pos this] at K
      exact K σ h (AgC.off (S := []) (F := []) OffM.rf)
    · have hne : ¬ tN A = 8 := fun q => g (by rw [q]; rfl)
      rw [if_neg hne, if_neg hne] at K
      rw [ix3m, show (1 : Int32) = nI 1 from rfl, show (2 : Int32) = nI 2 from rfl, nI_add, nI_add, nI_ix (by omega), nI_ix (by omega), nI_ix (by omega), setI_at, nI_add]
      refine ⟨vpin (by omega) (by decide), vpin (by omega) (by decide), vpin (by omega) (by decide), ?_⟩
      have ho : OffM [60] [29] σ (setI (setI (setI (setI σ 60 0 (3 * tN A) a1) 60 0 (3 * tN A + 1) a2) 60 0 (3 * tN A + 2) a3) 11 0 29 (nI (tN A + 1))) := OffM.sF (OffM.sI (OffM.sI (OffM.sI OffM.rf (by decide) (by decide)) (by decide) (by decide)) (by decide) (by decide)) (by decide)
      refine K _ (h.putU tput_A ho ?_) (AgC.off ho)
      refine ⟨?_, fun k t hk ht => ?_⟩
      · rw [setI_at, tput_7]
      · rw [tput_8, sk_k (by decide), setI_if, setI_if, setI_if, h7.2 k t hk ht]
        by_cases hk2 : k = tN A
        · subst hk2
          rcases (show t = 0 ∨ t = 1 ∨ t = 2 by omega) with rfl | rfl | rfl <;> simp
        · rw [if_neg (by omega), if_neg (by omega), if_neg (by omega), if_neg (by omega), if_neg (by omega), if_neg (by omega)]
  · rw [if_neg hg, if_neg hg] at K
    have K' := K σ h (AgC.off (S := []) (F := []) OffM.rf)
    exact sg_M_turn_0 ⟨fun g0 => ⟨fun g1 => ⟨fun g2 => absurd ⟨(mi 0 7).mp g0, (mi 1 63).mp g1, (mi 0 999).mp g2⟩ hg, fun _ => K'⟩, fun _ => K'⟩, fun _ => K'⟩
