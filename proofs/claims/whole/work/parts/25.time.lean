-- what a chapter is, TIME: of both
def tmBy (A : ST) (r c : Nat) (v : Int32) : Int32 := if A.1 3 r c = 1 then 2 * ((lC A c + v - 1) / v) else (lC A c + v - 1) / v
def tm (A : ST) (r c : Nat) : Int32 := tmBy A r c (A.1 2 r (kC A c).toNatClampNeg)
theorem kC_ix {A : ST} (hw : Wf A) {c : Nat} (hc : c < nC A) : ∃ k : Nat, k < 3 ∧ kC A c = nI k := by
  obtain ⟨h1, -⟩ := chap_ok hw.1.2 hc
  rcases h1 with h | h | h
  · exact ⟨0, by decide, h⟩
  · exact ⟨1, by decide, h⟩
  · exact ⟨2, by decide, h⟩
theorem lC_ix {A : ST} (hw : Wf A) {c : Nat} (hc : c < nC A) : ∃ l : Nat, 1 ≤ l ∧ l ≤ 99 ∧ lC A c = nI l := (chap_ok hw.1.2 hc).2
theorem nC_le {A : ST} (hw : Wf A) : nC A ≤ 8 := nch_le hw.1.2
theorem pace_ok {v : Int32} (h : rg v 1 9) : (1 : Int32) ≤ v ∧ ¬ v = 0 := by
  refine ⟨by rw [le_toInt]; exact h.1, ?_⟩
  rintro rfl
  exact absurd h.1 (by decide)
theorem c_by {A σ : ST} (hw : Wf A) (h : RepC A σ) {r c : Nat} {v : Int32} (hr : r < 6) (hc : c < nC A) (hv : rg v 1 9) : fn_C_minutesAt σ (nI r) (nI c) v = tmBy A r c v ∧ fs_C_minutesAt σ (nI r) (nI c) v := by
  have h8 := nC_le hw
  obtain ⟨v1, v2⟩ := pace_ok hv
  have hk := h.2.2.1 r c hr (by omega)
  have hk2 := hw.2.2.1 r c hr (by omega)
  have hl := (h.1.2.2.2 c hc).2
  have hvc := vpin (show c < 8 by omega) (by decide)
  have hvr := vpin hr (by decide)
  constructor
  · unfold fn_C_minutesAt fn_R_likes fn_B_linesOf tmBy
    rw [nI_ix (by omega), nI_ix (by omega), if_pos v1, hk, hl]
    rcases hk2 with q | q
    · rw [q, if_pos rfl, if_neg (by decide)]
    · rw [q, if_neg (by decide), if_pos rfl]
  · refine ⟨fun _ => ⟨hvc, v2, hvr, hvc, ?_⟩, fun _ => trivial⟩
    rw [nI_ix (by omega), nI_ix (by omega), hk]
    exact hk2
theorem c_spd {A σ : ST} (hw : Wf A) (h : RepC A σ) {r c : Nat} (hr : r < 6) (hc : c < nC A) : fs_B_kindOf σ (nI c) ∧ fs_R_speedFor σ r (fn_B_kindOf σ (nI c)) ∧ fn_R_speedFor σ r (fn_B_kindOf σ (nI c)) = A.1 2 r (kC A c).toNatClampNeg ∧ rg (A.1 2 r (kC A c).toNatClampNeg) 1 9 := by
  have h8 := nC_le hw
  obtain ⟨k, hk, ek⟩ := kC_ix hw hc
  have ekk : fn_B_kindOf σ (nI c) = nI k := by
    unfold fn_B_kindOf
    rw [nI_ix (by omega), (h.1.2.2.2 c hc).1, ek]
  rw [ekk, ek]
  refine ⟨vpin (by omega) (by decide), vpin hk (by decide), ?_, ?_⟩
  · unfold fn_R_speedFor
    rw [nI_ix (by omega)]
    exact h.2.1 r k hr hk
  · rw [nI_ix (by omega)]
    exact hw.2.1 r k hr hk
theorem c_tm {A σ : ST} (hw : Wf A) (h : RepC A σ) {r c : Nat} (hr : r < 6) (hc : c < nC A) : fn_C_minutes σ (nI r) (nI c) = tm A r c ∧ fs_C_minutes σ (nI r) (nI c) := by
  obtain ⟨s1, s2, s3, s4⟩ := c_spd hw h hr hc
  have hb := c_by hw h hr hc s4
  unfold fn_C_minutes fs_C_minutes tm
  rw [nI_ix (by omega), s3]
  exact ⟨hb.1, vpin hr (by decide), s1, s2, hb.2⟩
theorem m_by {A σ : ST} (hw : Wf A) (h : RepM A σ) (hp : Psd A σ) {r c : Nat} {v : Int32} (hr : r < 6) (hc : c < nC A) (hv : rg v 1 9) : fn_M_timeBy σ (nI r) (nI c) v = tmBy A r c v ∧ fs_M_timeBy σ (nI r) (nI c) v := by
  have h8 := nC_le hw
  obtain ⟨v1, v2⟩ := pace_ok hv
  have hk2 := hw.2.2.1 r c hr (by omega)
  have hvc := vpin (show c < 8 by omega) (by decide)
  refine ⟨?_, hvc, v2, vpin hr (by decide)⟩
  unfold fn_M_timeBy fp_M_isIn tmBy
  rw [nI_ix (by omega), nI_ix (by omega), h.2.2.1 r hr, bt8_get (by omega) hk2, (hp.2 c hc).2]
theorem m_tm {A σ : ST} (hw : Wf A) (h : RepM A σ) (hp : Psd A σ) {r c : Nat} (hr : r < 6) (hc : c < nC A) : fn_M_timeOf σ (nI r) (nI c) = tm A r c ∧ fs_M_timeOf σ (nI r) (nI c) := by
  have h8 := nC_le hw
  obtain ⟨k, hk, ek⟩ := kC_ix hw hc
  have e1 : (3 : Int32) * nI r + σ.1 47 0 (nI c).toNatClampNeg = nI (3 * r + k) := by
    rw [nI_ix (by omega), (hp.2 c hc).1, ek]
    exact ix3 hr hk
  have e2 : σ.1 49 0 (3 * r + k) = A.1 2 r k := h.2.1 r k hr hk
  have hb := m_by hw h hp hr hc (hw.2.1 r k hr hk)
  unfold fn_M_timeOf fs_M_timeOf tm
  rw [e1, nI_ix (show 3 * r + k < 2 ^ 31 by omega), e2, ek, nI_ix (show k < 2 ^ 31 by omega)]
  exact ⟨hb.1, vpin (by omega) (by decide), vpin (by omega) (by decide), hb.2⟩
-- chapters that there are
theorem c_isCh {A σ : ST} (hw : Wf A) (h : RepC A σ) {a : Int32} : fp_O_isChapter σ a ↔ rg a 0 ((nC A : Int) - 1) := by
  have h8 := nC_le hw
  have e : fn_B_chapters σ - 1 = nI (nC A) - 1 := by
    unfold fn_B_chapters
    rw [h.1.2.1]
  unfold fp_O_isChapter
  rw [e]
  exact wi 0 ((nC A : Int) - 1) rfl (nI_m1 (by omega))
theorem ch_ix {A : ST} (hw : Wf A) {a : Int32} (h : rg a 0 ((nC A : Int) - 1)) : ∃ c : Nat, c < nC A ∧ a = nI c := by
  have h8 := nC_le hw
  obtain ⟨j, hj, rfl⟩ := rg_nI (n := 60) (a := a) ⟨h.1, by have := h.2; omega⟩
  have := h.2
  rw [nI_toInt (by omega)] at this
  exact ⟨j, by omega, rfl⟩
theorem m_isCh {A σ : ST} {d : Nat} {a : Int32} {post : Option AV → ST → Prop} (hw : Wf A) (h : RepM A σ) (K : ∀ σ', RepM A σ' → Psd A σ' → OffM [47, 48] [7, 8] σ σ' → post (some (vI (bi (rg a 0 ((nC A : Int) - 1))))) σ') : Ev none (d + 3) m_M_isChapter 0 [some (vR 11 0), some (vI a)] [] σ post := by
  refine sg_M_isChapter_0 (m_reads hw h (fun σ' h1 h2 h3 => ⟨_, rfl, ?_⟩))
  have h8 := nC_le hw
  have e : fp_M_in σ' (Int32.toInt64 a) (0 : Int64) (Int32.toInt64 ((σ'.1 11 0 8) - (1 : Int32))) ↔ rg a 0 ((nC A : Int) - 1) := mi 0 ((nC A : Int) - 1) rfl (by rw [Int32.toInt_toInt64, h2.1]; exact nI_m1 (by omega))
  rw [bi_iff e]
  exact K σ' h1 h2 h3
-- fault
theorem cs_fault {A : ST} {d : Nat} : CS m_O_fault [some (vR 0 0)] (d + 1) A A (vI (flt (A.1 1 0) (sN A))) := by
  intro σ post h K
  refine f_O_fault ?_
  unfold fn_O_fault fn_B_faultPlace
  rw [h.1.2.2.1]
  exact K σ h (AgM.off (S := []) Off.rf)
theorem ms_fault {A : ST} {d : Nat} (hw : Wf A) : MSp m_M_fault [some (vR 11 0)] (d + 3) A A (vI (flt (A.1 1 0) (sN A))) := by
  intro σ post h K
  exact sg_M_fault_0 (m_reads hw h (fun σ' h1 h2 h3 => ⟨_, rfl, K σ' h1 (AgC.off h3)⟩))
-- chapter
abbrev g_chap (A : ST) (a1 a2 : Int32) : Prop := rg a1 0 ((nC A : Int) - 1) ∧ rg a2 0 2
def chv (A : ST) (c : Nat) (a2 : Int32) : Int32 := if a2 = 0 then kC A c else if a2 = 1 then lC A c else A.1 4 0 c
def an_chap (A : ST) (a1 a2 : Int32) : Int32 := if g_chap A a1 a2 then chv A a1.toNatClampNeg a2 else -2
theorem c_chv {A σ : ST} (hw : Wf A) (h : RepC A σ) {a1 a2 : Int32} : fn_O_chapter σ a1 a2 = an_chap A a1 a2 ∧ fs_O_chapter σ a1 a2 := by
  have h8 := nC_le hw
  unfold fn_O_chapter an_chap fs_O_chapter
  by_cases hg : rg a1 0 ((nC A : Int) - 1)
  · have hg' := (c_isCh hw h).mpr hg
    rw [if_pos hg']
    obtain ⟨c, hc, rfl⟩ := ch_ix hw hg
    have hvc := vpin (show c < 8 by omega) (by decide)
    have hs := h.2.2.2.1 c (by omega)
    have hs2 := hw.2.2.2.1 c (by omega)
    constructor
    · by_cases hg2 : rg a2 0 2
      · rw [if_pos ((wi 0 2).mpr hg2), if_pos (show g_chap A (nI c) a2 from ⟨hg, hg2⟩)]
        unfold chv fn_B_kindOf fn_B_linesOf fn_C_isSkipped
        rw [nI_ix (by omega), (h.1.2.2.2 c hc).1, (h.1.2.2.2 c hc).2, hs, asN hs2]
      · rw [if_neg (fun q => hg2 ((wi 0 2).mp q)), if_neg (fun q => hg2 q.2)]
    · refine ⟨fun _ => ⟨fun _ => ⟨fun _ => hvc, fun _ => ⟨fun _ => hvc, fun _ => ⟨hvc, ?_⟩⟩⟩, fun _ => trivial⟩, fun _ => trivial⟩
      rw [nI_ix (by omega), hs]
      exact hs2
  · rw [if_neg (fun q => hg ((c_isCh hw h).mp q)), if_neg (fun q => hg q.1)]
    exact ⟨rfl, fun q => absurd ((c_isCh hw h).mp q) hg, fun _ => trivial⟩
theorem cs_chap {A : ST} {a1 a2 : Int32} {d : Nat} (hw : Wf A) : CS m_O_chapter [some (vR 0 0), some (vI a1), some (vI a2)] (d + 2) A A (vI (an_chap A a1 a2)) := by
  intro σ post h K
  obtain ⟨e1, e2⟩ := c_chv hw h (a1 := a1) (a2 := a2)
  refine f_O_chapter e2 ?_
  rw [e1]
  exact K σ h (AgM.off (S := []) Off.rf)
theorem m_chv {A σ : ST} (hw : Wf A) (h : RepM A σ) (hp : Psd A σ) {c : Nat} {a2 : Int32} (hc : c < nC A) : fn_M_chapterOf σ (nI c) a2 = chv A c a2 ∧ fs_M_chapterOf σ (nI c) a2 := by
  have h8 := nC_le hw
  have hvc := vpin (show c < 8 by omega) (by decide)
  have hs2 := hw.2.2.2.1 c (by omega)
  refine ⟨?_, fun _ => hvc, fun _ => ⟨fun _ => hvc, fun _ => trivial⟩⟩
  unfold fn_M_chapterOf chv
  rw [nI_ix (by omega), (hp.2 c hc).1, (hp.2 c hc).2, h.2.2.2.1, bt8_get (by omega) hs2]
theorem ms_chap {A : ST} {a1 a2 : Int32} {d : Nat} (hw : Wf A) : MSp m_M_chapter [some (vR 11 0), some (vI a1), some (vI a2)] (d + 4) A A (vI (an_chap A a1 a2)) := by
  intro σ post h K
  unfold an_chap at K
  refine sg_M_chapter_0 (m_isCh hw h (fun σ' h1 h2 h3 => ⟨_, rfl, fun q => ?_, fun q => ?_⟩))
  · rw [if_neg] at K
    · exact K σ' h1 (AgC.off h3)
    · rintro ⟨g1, g2⟩
      rcases q with q | q
      · exact bi_0.mp q g1
      · exact q ((mi 0 2).mpr g2)
  · have g1 : rg a1 0 ((nC A : Int) - 1) := Decidable.byContradiction fun z => q (Or.inl (bi_0.mpr z))
    have g2 : rg a2 0 2 := Decidable.byContradiction fun z => q (Or.inr (fun w => z ((mi 0 2).mp w)))
    rw [if_pos ⟨g1, g2⟩] at K
    obtain ⟨c, hc, rfl⟩ := ch_ix hw g1
    have h8 := nC_le hw
    obtain ⟨e1, e2⟩ := m_chv hw h1 h2 hc (a2 := a2)
    rw [nI_ix (by omega)] at K
    rw [e1]
    exact ⟨e2, K σ' h1 (AgC.off h3)⟩
-- time
abbrev g_time (A : ST) (a1 a2 : Int32) : Prop := rg a1 0 5 ∧ rg a2 0 ((nC A : Int) - 1)
def an_time (A : ST) (a1 a2 : Int32) : Int32 := if g_time A a1 a2 then tm A a1.toNatClampNeg a2.toNatClampNeg else -2
theorem cs_time {A : ST} {a1 a2 : Int32} {d : Nat} (hw : Wf A) : CS m_O_time [some (vR 0 0), some (vI a1), some (vI a2)] (d + 3) A A (vI (an_time A a1 a2)) := by
  intro σ post h K
  have h8 := nC_le hw
  have key : fn_O_time σ a1 a2 = an_time A a1 a2 ∧ fs_O_time σ a1 a2 := by
    unfold fn_O_time an_time fs_O_time
    by_cases g1 : rg a1 0 5
    · rw [if_pos ((wi 0 5).mpr g1)]
      by_cases g2 : rg a2 0 ((nC A : Int) - 1)
      · rw [if_pos ((c_isCh hw h).mpr g2), if_pos ⟨g1, g2⟩]
        obtain ⟨r, hr, rfl⟩ := rg_nI (n := 5) g1
        obtain ⟨c, hc, rfl⟩ := ch_ix hw g2
        obtain ⟨e1, e2⟩ := c_tm hw h (show r < 6 by omega) hc
        rw [nI_ix (by omega), nI_ix (by omega)]
        exact ⟨e1, fun _ => ⟨fun _ => e2, fun _ => trivial⟩, fun _ => trivial⟩
      · rw [if_neg (fun q => g2 ((c_isCh hw h).mp q)), if_neg (fun q => g2 q.2)]
        exact ⟨rfl, fun _ => ⟨fun q => absurd ((c_isCh hw h).mp q) g2, fun _ => trivial⟩, fun _ => trivial⟩
    · rw [if_neg (fun q => g1 ((wi 0 5).mp q)), if_neg (fun q => g1 q.1)]
      exact ⟨rfl, fun q => absurd ((wi 0 5).mp q) g1, fun _ => trivial⟩
  refine f_O_time key.2 ?_
  rw [key.1]
  exact K σ h (AgM.off (S := []) Off.rf)
theorem ms_time {A : ST} {a1 a2 : Int32} {d : Nat} (hw : Wf A) : MSp m_M_time [some (vR 11 0), some (vI a1), some (vI a2)] (d + 4) A A (vI (an_time A a1 a2)) := by
  intro σ post h K
  unfold an_time at K
  have h8 := nC_le hw
  refine sg_M_time_0 ⟨fun g1 => m_isCh hw h (fun σ' h1 h2 h3 => ⟨_, rfl, fun q => ?_, fun q => ?_⟩), fun g1 => ?_⟩
  · rw [if_neg (fun z => bi_0.mp q z.2)] at K
    exact K σ' h1 (AgC.off h3)
  · have g1' := (mi 0 5).mp g1
    have g2 : rg a2 0 ((nC A : Int) - 1) := Decidable.byContradiction fun z => q (bi_0.mpr z)
    rw [if_pos ⟨g1', g2⟩] at K
    obtain ⟨r, hr, rfl⟩ := rg_nI (n := 5) g1'
    obtain ⟨c, hc, rfl⟩ := ch_ix hw g2
    obtain ⟨e1, e2⟩ := m_tm hw h1 h2 (show r < 6 by omega) hc
    rw [nI_ix (by omega), nI_ix (by omega)] at K
    rw [e1]
    exact ⟨e2, K σ' h1 (AgC.off h3)⟩
  · rw [if_neg (fun z => g1 ((mi 0 5).mpr z.1))] at K
    exact K σ h (AgC.off (S := []) (F := []) OffM.rf)
