-- skip, like, reader, forget, turn
def sbit (n c : Nat) (v : Bool) : Nat := if n.testBit c then (if v then n else n - 2 ^ c) else (if v then n + 2 ^ c else n)
theorem sbit_i : ∀ n, n < 256 → ∀ c, c < 8 → ∀ v, v < 2 → (nI n &&& ((isl 1 (nI c)) ^^^ (-1))) ||| (isl (nI v) (nI c)) = nI (sbit n c (decide (v = 1))) := by decide +kernel
theorem bt8_lo {f g : Nat → Int32} : ∀ {k : Nat}, (∀ j, j < k → f j = g j) → bt8 f k = bt8 g k
  | 0, _ => rfl
  | k + 1, h => by
    unfold bt8
    rw [bt8_lo (k := k) (fun j hj => h j (by omega)), h k (by omega)]
theorem bt8_up {f g : Nat → Int32} {c : Nat} (hne : ∀ j, j ≠ c → g j = f j) : ∀ {k : Nat}, c < k → bt8 g k + (if f c = 1 then 2 ^ c else 0) = bt8 f k + (if g c = 1 then 2 ^ c else 0)
  | 0, h => absurd h (by omega)
  | k + 1, h => by
    show bt8 g k + (if g k = 1 then 2 ^ k else 0) + _ = bt8 f k + (if f k = 1 then 2 ^ k else 0) + _
    by_cases hk : c = k
    · subst hk
      rw [bt8_lo (f := g) (g := f) (fun j hj => hne j (by omega))]
      omega
    · have ih := bt8_up hne (k := k) (by omega)
      rw [hne k (Ne.symm hk)]
      omega
theorem bt8_set {f g : Nat → Int32} {c : Nat} (hc : c < 8) (hne : ∀ j, j ≠ c → g j = f j) : bt8 g 8 = sbit (bt8 f 8) c (decide (g c = 1)) := by
  have h := bt8_up hne hc
  have hb := bt8_bit f 8 c
  unfold sbit
  by_cases h1 : f c = 1
  · rw [if_pos (hb.mpr ⟨hc, h1⟩)]
    rw [if_pos h1] at h
    by_cases h2 : g c = 1
    · rw [if_pos h2] at h
      simp only [h2, decide_true, if_true]
      omega
    · rw [if_neg h2] at h
      simp only [h2, decide_false, Bool.false_eq_true, if_false]
      omega
  · rw [if_neg (fun q => h1 (hb.mp q).2)]
    rw [if_neg h1] at h
    by_cases h2 : g c = 1
    · rw [if_pos h2] at h
      simp only [h2, decide_true, if_true]
      omega
    · rw [if_neg h2] at h
      simp only [h2, decide_false, Bool.false_eq_true, if_false]
      omega
theorem bt8_256 (f : Nat → Int32) : bt8 f 8 < 256 := bt8_lt f 8
/-- a bit of such a number, as the reference takes it -/
theorem bt8_get {f : Nat → Int32} {c : Nat} (hc : c < 8) (h01 : f c = 0 ∨ f c = 1) : (isr (nI (bt8 f 8)) (nI c)) &&& (1 : Int32) = f c := by
  have hlt := bt8_256 f
  have hb := bt8_bit f 8 c
  have h1 := bit_one (n := bt8 f 8) (k := c) (by omega) (by omega)
  rcases h01 with h0 | h0
  · rw [bit_nI (by omega) (by omega)]
    have h2 : ¬ (bt8 f 8).testBit c = true := fun q => by rw [(hb.mp q).2] at h0; exact absurd h0 (by decide)
    rw [Nat.testBit_eq_decide_div_mod_eq, decide_eq_true_eq] at h2
    rw [h0, show bt8 f 8 / 2 ^ c % 2 = 0 by omega]
    rfl
  · rw [h0]
    exact h1.mpr (hb.mpr ⟨hc, h0⟩)
-- skip
abbrev g_skip (a1 a2 : Int32) : Prop := rg a1 0 7 ∧ rg a2 0 1
def an_skip (A : ST) (a1 a2 : Int32) : Int32 := if g_skip a1 a2 then A.1 4 0 a1.toNatClampNeg else -2
def st_skip (A : ST) (a1 a2 : Int32) : ST := if g_skip a1 a2 then setI A 4 0 a1.toNatClampNeg a2 else A
theorem rg01 {a : Int32} (h : rg a 0 1) : a = 0 ∨ a = 1 := by
  obtain ⟨j, hj, rfl⟩ := rg_nI (n := 1) h
  rcases (show j = 0 ∨ j = 1 by omega) with rfl | rfl
  · exact Or.inl rfl
  · exact Or.inr rfl
theorem wf_skip {A : ST} {a1 a2 : Int32} (h : Wf A) : Wf (st_skip A a1 a2) := by
  unfold st_skip
  split
  next hg =>
    refine h.putS (hA1 (by decide)) ?_
    have h6 := h.2.2.2.1
    intro c hc
    rw [setI_if]
    split
    · exact rg01 hg.2
    · exact h6 c hc
  next => exact h
theorem bi_eq1 {a : Int32} (h : a = 0 ∨ a = 1) : bi (a = 1) = a := by
  rcases h with rfl | rfl <;> decide
theorem asN {σ : ST} {a : Int32} (h : a = 0 ∨ a = 1) : fn_O_asNumber σ a = a := by
  unfold fn_O_asNumber
  rcases h with rfl | rfl <;> rfl
theorem cs_skip {A : ST} {a1 a2 : Int32} {d : Nat} (hw : Wf A) : CS m_O_skip [some (vR 0 0), some (vI a1), some (vI a2)] (d + 1) A (st_skip A a1 a2) (vI (an_skip A a1 a2)) := by
  intro σ post h K
  unfold an_skip st_skip at K
  by_cases hg : g_skip a1 a2
  · rw [if_pos hg, if_pos hg] at K
    refine sg_O_skip_0 ⟨fun _ => ⟨fun _ => ?_, fun g => absurd ((wi 0 1).mpr hg.2) g⟩, fun g => absurd ((wi 0 7).mpr hg.1) g⟩
    intro z hz
    rw [bi_eq1 (rg01 hg.2)] at hz
    subst hz
    obtain ⟨c, hc, rfl⟩ := rg_nI (n := 7) hg.1
    have hv := vpin (show c < 8 by omega) (by decide)
    have hs := h.2.2.2.1 c (by omega)
    have hw4 := hw.2.2.2.1 c (by omega)
    rw [nI_ix (show c < 2 ^ 31 by omega)] at K
    refine sg_C_changeSkip_0 ⟨hv, hv, rg01 hg.2, ?_⟩
    rw [nI_ix (show c < 2 ^ 31 by omega), hs]
    refine ⟨hw4, _, rfl, ?_⟩
    rw [asN hw4]
    refine K _ (h.putS (S := [16]) (hA1 (by decide)) (Off.sI Off.rf (by decide)) ?_) (AgM.off (S := [16]) (Off.sI Off.rf (by decide)))
    intro c' hc'
    rw [setI_if, setI_if, h.2.2.2.1 c' hc']
  · rw [if_neg hg, if_neg hg] at K
    have K' := K σ h (AgM.off (S := []) Off.rf)
    exact sg_O_skip_0 ⟨fun g1 => ⟨fun g2 => absurd ⟨(wi 0 7).mp g1, (wi 0 1).mp g2⟩ hg, fun _ => K'⟩, fun _ => K'⟩
theorem ms_skip {A : ST} {a1 a2 : Int32} {d : Nat} (hw : Wf A) : MSp m_M_skip [some (vR 11 0), some (vI a1), some (vI a2), none] (d + 2) A (st_skip A a1 a2) (vI (an_skip A a1 a2)) := by
  intro σ post h K
  unfold an_skip st_skip at K
  by_cases hg : g_skip a1 a2
  · rw [if_pos hg, if_pos hg] at K
    refine sg_M_skip_0 ⟨fun _ => ?_, fun g => absurd ⟨(mi 0 7).mpr hg.1, (mi 0 1).mpr hg.2⟩ g⟩
    obtain ⟨c, hc, rfl⟩ := rg_nI (n := 7) hg.1
    obtain ⟨v, hv, rfl⟩ := rg_nI (n := 1) hg.2
    have h4 := h.2.2.2.1
    have hw4 := hw.2.2.2.1 c (by omega)
    rw [nI_ix (show c < 2 ^ 31 by omega)] at K
    unfold mS at h4
    rw [h4, bt8_get (by omega) hw4, sbit_i _ (bt8_256 _) c (by omega) v (by omega)]
    refine K _ (h.putS (S := []) (F := [11]) (hA1 (by decide)) (OffM.sF OffM.rf (by decide)) ?_) (AgC.off (S := []) (F := [11]) (OffM.sF OffM.rf (by decide)))
    unfold mS
    rw [setI_at]
    rw [bt8_set (f := A.1 4 0) (g := (setI A 4 0 c (nI v)).1 4 0) (c := c) (by omega) (fun j hj => by rw [sk_f hj]), setI_at]
    have e : decide (nI v = 1) = decide (v = 1) := by
      rcases (show v = 0 ∨ v = 1 by omega) with rfl | rfl <;> rfl
    rw [e]
  · rw [if_neg hg, if_neg hg] at K
    have K' := K σ h (AgC.off (S := []) (F := []) OffM.rf)
    exact sg_M_skip_0 ⟨fun g => absurd ⟨(mi 0 7).mp g.1, (mi 0 1).mp g.2⟩ hg, fun _ => K'⟩
-- like
abbrev g_like (a1 a2 a3 : Int32) : Prop := rg a1 0 5 ∧ rg a2 0 7 ∧ rg a3 0 1
def an_like (A : ST) (a1 a2 a3 : Int32) : Int32 := if g_like a1 a2 a3 then A.1 3 a1.toNatClampNeg a2.toNatClampNeg else -2
def st_like (A : ST) (a1 a2 a3 : Int32) : ST := if g_like a1 a2 a3 then setI A 3 a1.toNatClampNeg a2.toNatClampNeg a3 else A
theorem wf_like {A : ST} {a1 a2 a3 : Int32} (h : Wf A) : Wf (st_like A a1 a2 a3) := by
  unfold st_like
  split
  next hg =>
    refine h.putK (hA1 (by decide)) ?_
    have h6 := h.2.2.1
    intro r c hr hc
    rw [setI_if]
    split
    · exact rg01 hg.2.2
    · exact h6 r c hr hc
  next => exact h
theorem cs_like {A : ST} {a1 a2 a3 : Int32} {d : Nat} (hw : Wf A) : CS m_O_like [some (vR 0 0), some (vI a1), some (vI a2), some (vI a3)] (d + 2) A (st_like A a1 a2 a3) (vI (an_like A a1 a2 a3)) := by
  intro σ post h K
  unfold an_like st_like at K
  by_cases hg : g_like a1 a2 a3
  · rw [if_pos hg, if_pos hg] at K
    refine sg_O_like_0 ⟨fun _ => ⟨fun _ => ⟨fun _ => ?_, fun g => absurd ((wi 0 1).mpr hg.2.2) g⟩, fun g => absurd ((wi 0 7).mpr hg.2.1) g⟩, fun g => absurd ((wi 0 5).mpr hg.1) g⟩
    obtain ⟨r, hr, rfl⟩ := rg_nI (n := 5) hg.1
    have hvr := vpin (show r < 6 by omega) (by decide)
    refine ⟨hvr, ?_⟩
    intro z hz
    rw [bi_eq1 (rg01 hg.2.2)] at hz
    subst hz
    obtain ⟨c, hc, rfl⟩ := rg_nI (n := 7) hg.2.1
    have hv := vpin (show c < 8 by omega) (by decide)
    have hs := h.2.2.1 r c (by omega) (by omega)
    have hw4 := hw.2.2.1 r c (by omega) (by omega)
    show Ev none (d + 1) m_R_changeLike 0 [some (vR 3 (nI r).toNatClampNeg), _, _, _] [] σ _
    rw [nI_ix (show r < 2 ^ 31 by omega), nI_ix (show c < 2 ^ 31 by omega)] at K
    rw [nI_ix (show r < 2 ^ 31 by omega)]
    refine sg_R_changeLike_0 (by omega) ⟨hv, hv, rg01 hg.2.2, ?_⟩
    rw [nI_ix (show c < 2 ^ 31 by omega), hs]
    refine ⟨hw4, _, rfl, ?_⟩
    rw [asN hw4]
    refine K _ (h.putK (S := [18]) (hA1 (by decide)) (Off.sI Off.rf (by decide)) ?_) (AgM.off (S := [18]) (Off.sI Off.rf (by decide)))
    intro r' c' hr' hc'
    rw [setI_if, setI_if, h.2.2.1 r' c' hr' hc']
  · rw [if_neg hg, if_neg hg] at K
    have K' := K σ h (AgM.off (S := []) Off.rf)
    exact sg_O_like_0 ⟨fun g0 => ⟨fun g1 => ⟨fun g2 => absurd ⟨(wi 0 5).mp g0, (wi 0 7).mp g1, (wi 0 1).mp g2⟩ hg, fun _ => K'⟩, fun _ => K'⟩, fun _ => K'⟩
theorem ms_like {A : ST} {a1 a2 a3 : Int32} {d : Nat} (hw : Wf A) : MSp m_M_like [some (vR 11 0), some (vI a1), some (vI a2), some (vI a3), none] (d + 2) A (st_like A a1 a2 a3) (vI (an_like A a1 a2 a3)) := by
  intro σ post h K
  unfold an_like st_like at K
  by_cases hg : g_like a1 a2 a3
  · rw [if_pos hg, if_pos hg] at K
    refine sg_M_like_0 ⟨fun _ => ?_, fun g => absurd ⟨(mi 0 5).mpr hg.1, (mi 0 7).mpr hg.2.1, (mi 0 1).mpr hg.2.2⟩ g⟩
    obtain ⟨r, hr, rfl⟩ := rg_nI (n := 5) hg.1
    obtain ⟨c, hc, rfl⟩ := rg_nI (n := 7) hg.2.1
    obtain ⟨v, hv, rfl⟩ := rg_nI (n := 1) hg.2.2
    have hvr := vpin (show r < 6 by omega) (by decide)
    have h4 := h.2.2.1 r (by omega)
    have hw4 := hw.2.2.1 r c (by omega) (by omega)
    rw [nI_ix (show r < 2 ^ 31 by omega), nI_ix (show c < 2 ^ 31 by omega)] at K
    refine ⟨hvr, hvr, hvr, ?_⟩
    rw [nI_ix (show r < 2 ^ 31 by omega), h4, bt8_get (by omega) hw4, sbit_i _ (bt8_256 _) c (by omega) v (by omega)]
    refine K _ (h.putK (S := [50]) (F := []) (hA1 (by decide)) (OffM.sI OffM.rf (by decide) (by decide)) ?_) (AgC.off (S := [50]) (F := []) (OffM.sI OffM.rf (by decide) (by decide)))
    intro r' hr'
    by_cases hrr : r' = r
    · subst hrr
      rw [setI_at]
      rw [bt8_set (f := A.1 3 r') (g := (setI A 3 r' c (nI v)).1 3 r') (c := c) (by omega) (fun j hj => by rw [sk_f hj]), setI_at]
      have e : decide (nI v = 1) = decide (v = 1) := by
        rcases (show v = 0 ∨ v = 1 by omega) with rfl | rfl <;> rfl
      rw [e]
    · rw [sk_f hrr, sk_i hrr]
      exact h.2.2.1 r' hr'
  · rw [if_neg hg, if_neg hg] at K
    have K' := K σ h (AgC.off (S := []) (F := []) OffM.rf)
    exact sg_M_like_0 ⟨fun g => absurd ⟨(mi 0 5).mp g.1, (mi 0 7).mp g.2.1, (mi 0 1).mp g.2.2⟩ hg, fun _ => K'⟩
-- reader
def mostT (a2 : Int32) : Int := if a2 = 0 then 99 else if a2 = 1 then 9 else 4
abbrev g_reader (a1 a2 a3 : Int32) : Prop := rg a1 0 5 ∧ rg a2 0 2 ∧ rg a3 0 (mostT a2)
def an_reader (A : ST) (a1 a2 a3 : Int32) : Int32 := if g_reader a1 a2 a3 then A.1 5 a1.toNatClampNeg a2.toNatClampNeg else -2
def st_reader (A : ST) (a1 a2 a3 : Int32) : ST := if g_reader a1 a2 a3 then setI A 5 a1.toNatClampNeg a2.toNatClampNeg a3 else A
theorem mostT_c {σ : ST} {a2 : Int32} : (fn_O_mostOfTrait σ a2).toInt = mostT a2 := by
  unfold fn_O_mostOfTrait mostT
  split
  · rfl
  · split <;> rfl
theorem mostT_m {a2 : Int32} : (if a2 = 0 then (99 : Int64) else (if a2 = (1 : Int32) then (9 : Int64) else (4 : Int64))).toInt = mostT a2 := by
  unfold mostT
  split
  · rfl
  · split <;> rfl
theorem wf_reader {A : ST} {a1 a2 a3 : Int32} (h : Wf A) : Wf (st_reader A a1 a2 a3) := by
  unfold st_reader
  split
  next hg =>
    refine h.putT (hA1 (by decide)) ?_
    have h6 := h.2.2.2.2.1
    obtain ⟨g1, g2, g3⟩ := hg
    obtain ⟨t, ht, rfl⟩ := rg_nI (n := 2) g2
    rw [nI_ix (by omega)]
    intro r hr
    obtain ⟨h0, h1, h2⟩ := h6 r hr
    rw [setI_if, setI_if, setI_if]
    rcases (show t = 0 ∨ t = 1 ∨ t = 2 by omega) with rfl | rfl | rfl
    · refine ⟨?_, ?_, ?_⟩
      · split
        · exact g3
        · exact h0
      · rw [if_neg (by omega)]; exact h1
      · rw [if_neg (by omega)]; exact h2
    · refine ⟨?_, ?_, ?_⟩
      · rw [if_neg (by omega)]; exact h0
      · split
        · exact g3
        · exact h1
      · rw [if_neg (by omega)]; exact h2
    · refine ⟨?_, ?_, ?_⟩
      · rw [if_neg (by omega)]; exact h0
      · rw [if_neg (by omega)]; exact h1
      · split
        · exact g3
        · exact h2
  next => exact h
theorem cs_reader {A : ST} {a1 a2 a3 : Int32} {d : Nat} : CS m_O_reader [some (vR 0 0), some (vI a1), some (vI a2), some (vI a3)] (d + 2) A (st_reader A a1 a2 a3) (vI (an_reader A a1 a2 a3)) := by
  intro σ post h K
  unfold an_reader st_reader at K
  by_cases hg : g_reader a1 a2 a3
  · rw [if_pos hg, if_pos hg] at K
    refine sg_O_reader_0 ⟨fun _ => ?_, fun g => absurd ⟨(wi 0 5).mpr hg.1, (wi 0 2).mpr hg.2.1, (wi 0 (mostT a2) rfl mostT_c).mpr hg.2.2⟩ g⟩
    obtain ⟨r, hr, rfl⟩ := rg_nI (n := 5) hg.1
    obtain ⟨t, ht, rfl⟩ := rg_nI (n := 2) hg.2.1
    have hv := vpin (show r < 6 by omega) (by decide)
    have hv2 := vpin (show t < 3 by omega) (by decide)
    refine ⟨hv, ?_⟩
    show Ev none (d + 1) m_R_changeTrait 0 [some (vR 3 (nI r).toNatClampNeg), _, _, _] [] σ _
    rw [nI_ix (show r < 2 ^ 31 by omega), nI_ix (show t < 2 ^ 31 by omega)] at K
    rw [nI_ix (show r < 2 ^ 31 by omega)]
    refine sg_R_changeTrait_0 (by omega) ⟨hv2, hv2, _, rfl, ?_⟩
    rw [nI_ix (show t < 2 ^ 31 by omega), h.2.2.2.2.1 r t (by omega) (by omega)]
    refine K _ (h.putT (S := [19]) (hA1 (by decide)) (Off.sI Off.rf (by decide)) ?_) (AgM.off (S := [19]) (Off.sI Off.rf (by decide)))
    intro r' k' hr' hk'
    rw [setI_if, setI_if, h.2.2.2.2.1 r' k' hr' hk']
  · rw [if_neg hg, if_neg hg] at K
    have K' := K σ h (AgM.off (S := []) Off.rf)
    exact sg_O_reader_0 ⟨fun g => absurd ⟨(wi 0 5).mp g.1, (wi 0 2).mp g.2.1, (wi 0 (mostT a2) rfl mostT_c).mp g.2.2⟩ hg, fun _ => K'⟩
theorem ms_reader {A : ST} {a1 a2 a3 : Int32} {d : Nat} : MSp m_M_reader [some (vR 11 0), some (vI a1), some (vI a2), some (vI a3), none] (d + 2) A (st_reader A a1 a2 a3) (vI (an_reader A a1 a2 a3)) := by
  intro σ post h K
  unfold an_reader st_reader at K
  by_cases hg : g_reader a1 a2 a3
  · rw [if_pos hg, if_pos hg] at K
    refine sg_M_reader_0 ⟨fun _ => ⟨fun _ => ?_, fun g => absurd ((mi 0 2).mpr hg.2.1) g⟩, fun g => absurd ((mi 0 5).mpr hg.1) g⟩
    intro z hz
    refine ⟨fun _ => ?_, fun g => absurd ((mi 0 (mostT a2) rfl (by rw [hz]; exact mostT_m)).mpr hg.2.2) g⟩
    obtain ⟨r, hr, rfl⟩ := rg_nI (n := 5) hg.1
    obtain ⟨t, ht, rfl⟩ := rg_nI (n := 2) hg.2.1
    have hv := vpin (show r < 6 by omega) (by decide)
    rw [nI_ix (show r < 2 ^ 31 by omega), nI_ix (show t < 2 ^ 31 by omega)] at K
    have h5 := h.2.2.2.2.1
    obtain ⟨e0, e1, e2⟩ := h5 r (by omega)
    refine ⟨⟨fun _ => hv, fun _ => ⟨fun _ => hv, fun _ => hv⟩⟩, ?_⟩
    intro z8 hz8
    have hz8' : z8 = A.1 5 r t := by
      rw [hz8, nI_ix (show r < 2 ^ 31 by omega)]
      rcases (show t = 0 ∨ t = 1 ∨ t = 2 by omega) with rfl | rfl | rfl
      · exact e0
      · exact e1
      · exact e2
    rw [hz8', nI_ix (show r < 2 ^ 31 by omega)]
    rcases (show t = 0 ∨ t = 1 ∨ t = 2 by omega) with rfl | rfl | rfl
    · refine ⟨fun _ => ⟨hv, ?_⟩, fun q => absurd rfl q⟩
      refine K _ (h.putT (S := [51]) (F := []) (hA1 (by decide)) (OffM.sI OffM.rf (by decide) (by decide)) ?_) (AgC.off (S := [51]) (F := []) (OffM.sI OffM.rf (by decide) (by decide)))
      intro r' hr'
      obtain ⟨u0, u1, u2⟩ := h5 r' hr'
      simp only [setI_if, sk_k (show (52 : Nat) ≠ 51 by decide), sk_k (show (53 : Nat) ≠ 51 by decide)]
      simp [u0, u1, u2]
    · refine ⟨fun q => absurd q (by decide), fun _ => ⟨fun _ => ⟨hv, ?_⟩, fun q => absurd rfl q⟩⟩
      refine K _ (h.putT (S := [52]) (F := []) (hA1 (by decide)) (OffM.sI OffM.rf (by decide) (by decide)) ?_) (AgC.off (S := [52]) (F := []) (OffM.sI OffM.rf (by decide) (by decide)))
      intro r' hr'
      obtain ⟨u0, u1, u2⟩ := h5 r' hr'
      simp only [setI_if, sk_k (show (51 : Nat) ≠ 52 by decide), sk_k (show (53 : Nat) ≠ 52 by decide)]
      simp [u0, u1, u2]
    · refine ⟨fun q => absurd q (by decide), fun _ => ⟨fun q => absurd q (by decide), fun _ => ⟨hv, ?_⟩⟩⟩
      refine K _ (h.putT (S := [53]) (F := []) (hA1 (by decide)) (OffM.sI OffM.rf (by decide) (by decide)) ?_) (AgC.off (S := [53]) (F := []) (OffM.sI OffM.rf (by decide) (by decide)))
      intro r' hr'
      obtain ⟨u0, u1, u2⟩ := h5 r' hr'
      simp only [setI_if, sk_k (show (51 : Nat) ≠ 53 by decide), sk_k (show (52 : Nat) ≠ 53 by decide)]
      simp [u0, u1, u2]
  · rw [if_neg hg, if_neg hg] at K
    have K' := K σ h (AgC.off (S := []) (F := []) OffM.rf)
    refine sg_M_reader_0 ⟨fun g0 => ⟨fun g1 => fun z hz => ⟨fun g2 => absurd ⟨(mi 0 5).mp g0, (mi 0 2).mp g1, (mi 0 (mostT a2) rfl (by rw [hz]; exact mostT_m)).mp g2⟩ hg, fun _ => K'⟩, fun _ => K'⟩, fun _ => K'⟩
