-- digest
def mixK (f : Nat → Int64) (h : Int64) : Nat → Int64
  | 0 => h
  | k + 1 => 31 * mixK f h k + f k
theorem mixK_s {f : Nat → Int64} {h : Int64} {k : Nat} : mixK f h (k + 1) = 31 * mixK f h k + f k := rfl
def dch (A : ST) (c : Nat) (h : Int64) : Int64 := 31 * (31 * (31 * mixK (fun k => (evv A 3 c (nI k)).toInt64) (mixK (fun r => (tm A r c).toInt64) (mixK (fun k => (chv A c (nI k)).toInt64) h 3) 6) 3 + (wtv A 3 c 1 0).toInt64) + (wtv A 3 c 1 1).toInt64) + (nI ((pbv A 0 1).2.2.2 c)).toInt64
def dgA (A : ST) : Nat → Int64
  | 0 => 31 * mixK (fun k => (an_count A (nI k)).toInt64) 17 8 + (flt (A.1 1 0) (sN A)).toInt64
  | c + 1 => dch A c (dgA A c)
def dgR (A : ST) : Int64 := 31 * (31 * (31 * (31 * mixK (fun k => (bsv A 4 5 (nI k)).toInt64) (mixK (fun k => (bsv A 0 1 (nI k)).toInt64) (dgA A (nC A)) 3) 3 + (rsf A 0 1 (-1) 16 0).toInt64) + (rsf A 0 1 0 16 0).toInt64) + (gn A 0 1 2 1).toInt64) + (gn A 1 0 1 2).toInt64
def dgS (A : ST) : Nat → Int64
  | 0 => 31 * dgR A + (prv A 63 (-1)).toInt64
  | r + 1 => mixK (fun k => (fpK A r (nI k) 9).toInt64) (31 * dgS A r + (prv A 63 (nI r)).toInt64) 3
def dgV (A : ST) : Int64 := mixK (fun k => mnv A 7 (nI k)) (mixK (fun k => dnv A 7 60 (nI k)) (31 * dgS A 6 + (nI (ulK A (tN A))).toInt64) 2) 2
theorem cPl.off {A σ σ' : ST} {v : Nat × Nat × Nat × (Nat → Nat)} {S : List Nat} (h : cPl A v σ) (ho : Off S σ σ') (hs : 5 ∉ S ∧ 24 ∉ S := by decide) : cPl A v σ' := by
  unfold cPl at *
  rw [(ho 5 hs.1).1, (ho 24 hs.2).1]
  exact h
theorem mPl.off {A σ σ' : ST} {v : Nat × Nat × Nat × (Nat → Nat)} {S F : List Nat} (h : mPl A v σ) (ho : OffM S F σ σ') (hs : 57 ∉ S := by decide) (hf : 24 ∉ F ∧ 25 ∉ F ∧ 26 ∉ F := by decide) : mPl A v σ' := by
  unfold mPl at *
  rw [ho.2 24 hf.1, ho.2 25 hf.2.1, ho.2 26 hf.2.2, (ho.1 57 hs (by decide)).1]
  exact h
theorem chap_v {A : ST} (hw : Wf A) {c k : Nat} (hc : c < nC A) (hk : k < 3) : an_chap A (nI c) (nI k) = chv A c (nI k) := by
  have h8 := nC_le hw
  unfold an_chap
  rw [if_pos ⟨nI_rg' (by omega) (by omega) (by omega), nI_rg' (by omega) (by omega) (by omega)⟩, nI_ix (by omega)]
theorem h31 : hld 3 1 := by decide
theorem p63 : pcn 63 % 2 = 0 := by decide
theorem p7 : pcn 7 ≤ 3 := by decide
theorem t63 : ∀ r, r < 6 → (63 : Nat).testBit r = true := by decide
theorem prv_r {A : ST} {r : Nat} (hr : r < 6) : prv A 63 (nI r) = nI (pf A (pcn 63) 63 r) := by
  unfold prv
  rw [if_neg (nI_nem1 (by omega)), nI_ix (by omega)]
theorem prv_m {A : ST} : prv A 63 (-1) = LI A 63 := if_pos rfl
theorem i32_10 : ¬ (1 : Int32) = 0 := by decide
theorem bsv3 {A : ST} {a b : Nat} {h : Int64} : mixK (fun k => (bsv A a b (nI k)).toInt64) h 3 = 31 * (31 * (31 * h + (nI (pbv A a b).1).toInt64) + (nI (pbv A a b).2.1).toInt64) + (nI (pbv A a b).2.2.1).toInt64 := by
  have e0 : bsv A a b (nI 0) = nI (pbv A a b).1 := if_pos rfl
  have e1 : bsv A a b (nI 1) = nI (pbv A a b).2.1 := by unfold bsv; rw [if_neg (show ¬ nI 1 = 0 by decide), if_pos (show nI 1 = 1 from rfl)]
  have e2 : bsv A a b (nI 2) = nI (pbv A a b).2.2.1 := by unfold bsv; rw [if_neg (show ¬ nI 2 = 0 by decide), if_neg (show ¬ nI 2 = 1 by decide)]
  show 31 * (31 * (31 * h + (bsv A a b (nI 0)).toInt64) + (bsv A a b (nI 1)).toInt64) + (bsv A a b (nI 2)).toInt64 = _
  rw [e0, e1, e2]
theorem evv3 {A : ST} {c : Nat} {h : Int64} : mixK (fun k => (evv A 3 c (nI k)).toInt64) h 3 = 31 * (31 * (31 * h + (ev0 A 3 c).1.toInt64) + (ev0 A 3 c).2.1.toInt64) + (ev0 A 3 c).2.2.1.toInt64 := by
  have e0 : evv A 3 c (nI 0) = (ev0 A 3 c).1 := if_pos rfl
  have e1 : evv A 3 c (nI 1) = (ev0 A 3 c).2.1 := by unfold evv; rw [if_neg (show ¬ nI 1 = 0 by decide), if_pos (show nI 1 = 1 from rfl)]
  have e2 : evv A 3 c (nI 2) = (ev0 A 3 c).2.2.1 := by unfold evv; rw [if_neg (show ¬ nI 2 = 0 by decide), if_neg (show ¬ nI 2 = 1 by decide)]
  show 31 * (31 * (31 * h + (evv A 3 c (nI 0)).toInt64) + (evv A 3 c (nI 1)).toInt64) + (evv A 3 c (nI 2)).toInt64 = _
  rw [e0, e1, e2]
theorem c_mixCh {A σ : ST} {d c : Nat} {h0 : Int64} (hw : Wf A) (h : RepC A σ) (hP : cPl A (pbv A 0 1) σ) (hc : c < nC A) {post : Option AV → ST → Prop} (K : ∀ σ', Off [4, 20] σ σ' → post (some (vJ (dch A c h0))) σ') : Ev none (d + 5) m_O_mixChapter 0 [some (vR 0 0), some (vJ h0), none, some (vI (nI c)), none, none, none] [] σ post := by
  have h8 := nC_le hw
  refine sg_O_mixChapter_0 ?_
  refine upto (n := 3) (P := fun k => Ev none (d + 5) m_O_mixChapter 6 [some (vR 0 0), none, none, some (vI (nI c)), some (vJ (mixK (fun k => (chv A c (nI k)).toInt64) h0 k)), none, some (vI (nI k))] [] σ post) ?_ ?_
  · refine sg_O_mixChapter_6 ⟨fun _ => ?_, fun q => absurd (by decide) q⟩
    refine upto (n := 6) (P := fun r => Ev none (d + 5) m_O_mixChapter 36 [some (vR 0 0), none, none, some (vI (nI c)), some (vJ (mixK (fun r => (tm A r c).toInt64) (mixK (fun k => (chv A c (nI k)).toInt64) h0 3) r)), none, some (vI (nI r))] [] σ post) ?_ ?_
    · refine sg_O_mixChapter_36 ⟨fun _ => ?_, fun q => absurd (Int32.le_refl _) q⟩
      refine c_sit (a := 3) hw h hc (fun σ' ho hE => ⟨rfl, ?_⟩)
      have hR := h.off ho
      obtain ⟨⟨v1, v2⟩, v3, v4⟩ := c_wtv hR hE (r := 1) (by decide) h31
      have hP' := hP.off ho
      have K' := K σ' ho
      unfold dch at K'
      rw [evv3] at K'
      refine ⟨v1, v3, vpin (by omega) (by decide), ?_⟩
      have v2' : fn_E_waitOf σ' 1 = wtv A 3 c 1 0 := v2
      have v4' : fn_E_workLeft σ' 1 = wtv A 3 c 1 1 := v4
      rw [v2', v4']
      unfold fn_O_mix fn_E_chapters fn_E_minute fn_E_next fn_P_wayOf
      rw [hE.1, hE.2.1, hE.2.2.1, nI_ix (by omega), hP'.1.2.2.2 c hc]
      exact K'
    · intro r hr ih
      obtain ⟨t1, t2⟩ := c_tm hw h hr hc
      refine sg_O_mixChapter_36 ⟨fun q => absurd ((nI_leI (a := 6) (by decide) (by omega)).mp q) (by omega), fun _ => ⟨t2, ?_⟩⟩
      rw [t1, nI_1]
      exact ih
  · intro k hk ih
    obtain ⟨e1, e2⟩ := c_chv hw h (a1 := nI c) (a2 := nI k)
    refine sg_O_mixChapter_6 ⟨fun q => absurd ((nI_ltI (a := 2) (by decide) (by omega)).mp q) (by omega), fun _ => ⟨e2, ?_⟩⟩
    rw [e1, chap_v hw hc hk, nI_1]
    exact ih
theorem c_mixSe {A σ : ST} {d : Nat} {h0 : Int64} (hw : Wf A) (h : RepC A σ) {post : Option AV → ST → Prop} (K : ∀ σ', Off [6, 26, 27, 28] σ σ' → post (some (vJ (31 * (31 * (31 * (31 * h0 + (rsf A 0 1 (-1) 16 0).toInt64) + (rsf A 0 1 0 16 0).toInt64) + (gn A 0 1 2 1).toInt64) + (gn A 1 0 1 2).toInt64))) σ') : Ev none (d + 5) m_O_mixSeeming 0 [some (vR 0 0), some (vJ h0), none, none, none] [] σ post := by
  refine sg_O_mixSeeming_0 (c_rests (a := 0) (b := 1) hw h (by decide) (by decide) (fun σ' ho hR => ⟨rfl, ?_⟩))
  have hC := h.off ho
  obtain ⟨u1, u2⟩ := c_rsAt hR (n := 0) (by decide)
  have u2' : fn_S_restAt σ' 0 = rsf A 0 1 0 16 0 := u2
  refine ⟨u1, c_gain (a := 0) (b := 1) (d := d + 1) hw hC (by decide) (by decide) ⟨_, rfl, c_gain (a := 1) (b := 0) (d := d + 1) hw hC (by decide) (by decide) ⟨_, rfl, ?_⟩⟩⟩
  rw [u2']
  unfold fn_O_mix fn_S_restCount
  rw [hR.1, ← rsf_m1 16 0 (by omega)]
  exact K σ' ho
theorem c_mixSt {A σ : ST} {d : Nat} {h0 : Int64} (hw : Wf A) (h : RepC A σ) (e0 : dgR A = h0) {post : Option AV → ST → Prop} (K : ∀ σ', Off [7, 29, 30, 31] σ σ' → post (some (vJ (dgS A 6))) σ') : Ev none (d + 6) m_O_mixSeats 0 [some (vR 0 0), some (vJ h0), none, none, none, none, none] [] σ post := by
  subst e0
  refine sg_O_mixSeats_0 (c_seat (s := 63) (d := d + 1) hw h (by decide) (by decide) p63 (fun σ' ho hP => ⟨rfl, ?_⟩))
  have hR := h.off ho
  have e1 : fn_O_mix σ' (dgR A) (fn_T_minutes σ').toInt64 = dgS A 0 := by
    unfold fn_O_mix fn_T_minutes
    rw [hP.1, ← prv_m]
    rfl
  rw [e1]
  refine upto (n := 6) (P := fun r => Ev none (d + 6) m_O_mixSeats 25 [some (vR 0 0), none, none, some (vJ (dgS A r)), none, some (vI (nI r)), none] [] σ' post) ?_ ?_
  · exact sg_O_mixSeats_25 ⟨fun _ => K σ' ho, fun q => absurd (Int32.le_refl _) q⟩
  · intro r hr ih
    refine sg_O_mixSeats_25 ⟨fun q => absurd ((nI_leI (a := 6) (by decide) (by omega)).mp q) (by omega), fun _ => ⟨vpin hr (by decide), ?_⟩⟩
    have e2 : fn_O_mix σ' (dgS A r) (fn_T_partnerOf σ' (nI r)).toInt64 = 31 * dgS A r + (prv A 63 (nI r)).toInt64 := by
      unfold fn_O_mix fn_T_partnerOf
      rw [nI_ix (by omega), hP.2 r hr (t63 r hr), prv_r hr]
    rw [e2]
    refine upto (n := 3) (P := fun k => Ev none (d + 6) m_O_mixSeats 50 [some (vR 0 0), none, none, some (vJ (mixK (fun k => (fpK A r (nI k) 9).toInt64) (31 * dgS A r + (prv A 63 (nI r)).toInt64) k)), none, some (vI (nI r)), some (vI (nI k))] [] σ' post) ?_ ?_
    · refine sg_O_mixSeats_50 ⟨fun _ => ?_, fun q => absurd (Int32.le_refl _) q⟩
      rw [nI_1]
      exact ih
    · intro k hk ihk
      refine sg_O_mixSeats_50 ⟨fun q => absurd ((nI_leI (a := 3) (by decide) (by omega)).mp q) (by omega), fun _ => c_paces hw hR hr ⟨_, rfl, ?_⟩⟩
      rw [nI_1]
      exact ihk
theorem c_mixMo {A σ : ST} {d : Nat} {h0 : Int64} (hw : Wf A) (h : RepC A σ) {post : Option AV → ST → Prop} (K : ∀ σ', Off [9, 35, 36, 37, 38, 39] σ σ' → post (some (vJ (mixK (fun k => mnv A 7 (nI k)) (mixK (fun k => dnv A 7 60 (nI k)) h0 2) 2))) σ') : Ev none (d + 5) m_O_mixMoods 0 [some (vR 0 0), some (vJ h0), none, none, none] [] σ post := by
  refine sg_O_mixMoods_0 (c_done (s := 7) (m := 60) hw h (by decide) p7 (by decide) (fun σ1 o1 e7 e8 => ⟨rfl, c_mean (s := 7) hw (h.off o1) (by decide) p7 (fun σ2 o2 f7 f8 => ⟨rfl, ?_⟩)⟩))
  have K' := K σ2 (Off.tr o1 o2)
  have n1 : ¬ nI 1 = 0 := by decide
  have d0 : dnv A 7 60 (nI 0) = lN (dnX A 7 60 / Nat.gcd (dnX A 7 60) (dnY A 7)) := if_pos rfl
  have d1 : dnv A 7 60 (nI 1) = lN (dnY A 7 / Nat.gcd (dnX A 7 60) (dnY A 7)) := if_neg n1
  have m0 : mnv A 7 (nI 0) = lN (mnS A 7 (nC A) / Nat.gcd (mnS A 7 (nC A)) (4 ^ pcn 7)) := if_pos rfl
  have m1 : mnv A 7 (nI 1) = lN (4 ^ pcn 7 / Nat.gcd (mnS A 7 (nC A)) (4 ^ pcn 7)) := if_neg n1
  have K2 : post (some (vJ (31 * (31 * (31 * (31 * h0 + dnv A 7 60 (nI 0)) + dnv A 7 60 (nI 1)) + mnv A 7 (nI 0)) + mnv A 7 (nI 1)))) σ2 := K'
  rw [d0, d1, m0, m1] at K2
  unfold fn_O_mix fn_D_above fn_D_below
  rw [e7, e8, f7, f8]
  exact K2
theorem cs_dig {A : ST} {d : Nat} (hw : Wf A) : CS m_O_digest [some (vR 0 0), none, none, none] (d + 12) A A (vJ (dgV A)) := by
  intro σ post h K
  have h8 := nC_le hw
  refine sg_O_digest_0 (d := d + 5) ?_
  refine upto (n := 8) (P := fun k => ∀ σk, RepC A σk → AgM σ σk → Ev none (d + 5 + 7) m_O_digest 6 [some (vR 0 0), some (vJ (mixK (fun k => (an_count A (nI k)).toInt64) 17 k)), none, some (vI (nI k))] [] σk post) ?_ ?_ σ h (AgM.off (S := []) Off.rf)
  · intro σk hR hag
    refine sg_O_digest_6 (d := d + 5) ⟨fun _ => ?_, fun q => absurd (by decide) q⟩
    refine c_search (a := 0) (b := 1) hw hR (by decide) (by decide) (fun σ1 o1 hP => ⟨rfl, ?_⟩)
    have e0 : fn_O_mix σk (mixK (fun k => (an_count A (nI k)).toInt64) 17 8) (fn_O_fault σk).toInt64 = dgA A 0 := by
      unfold fn_O_mix fn_O_fault fn_B_faultPlace
      rw [hR.1.2.2.1]
      rfl
    rw [e0]
    refine upto (n := nC A) (P := fun c => ∀ σc, RepC A σc → AgM σ σc → cPl A (pbv A 0 1) σc → Ev none (d + 5 + 7) m_O_digest 58 [some (vR 0 0), some (vJ (dgA A c)), none, some (vI (nI c))] [] σc post) ?_ ?_ σ1 (hR.off o1) (AgM.tr hag (AgM.off o1)) hP
    · intro σc hRc hagc hPc
      have ech : fn_B_chapters σc = nI (nC A) := hRc.1.2.1
      refine sg_O_digest_58 (d := d + 5) ⟨fun _ => ?_, fun q => absurd (by rw [ech]; exact Int32.le_refl _) q⟩
      refine c_search (a := 4) (b := 5) hw hRc (by decide) (by decide) (fun σ2 o2 hP2 => ⟨rfl, ?_⟩)
      have hR2 := hRc.off o2
      have e1 : fn_O_mixPlan σ2 (fn_O_mixPlan σc (dgA A (nC A))) = mixK (fun k => (bsv A 4 5 (nI k)).toInt64) (mixK (fun k => (bsv A 0 1 (nI k)).toInt64) (dgA A (nC A)) 3) 3 := by
        rw [bsv3, bsv3]
        unfold fn_O_mixPlan fn_O_mix fn_P_lines fn_P_waits fn_P_minutes
        rw [hPc.1.1, hPc.1.2.1, hPc.1.2.2.1, hP2.1.1, hP2.1.2.1, hP2.1.2.2.1]
      rw [e1]
      refine c_mixSe (d := d + 6) hw hR2 (fun σ3 o3 => ⟨_, rfl, ?_⟩)
      have hR3 := hR2.off o3
      refine c_mixSt (d := d + 5) hw hR3 rfl (fun σ4 o4 => ⟨_, rfl, ?_⟩)
      have hR4 := hR3.off o4
      refine cs_unl (d := d + 7) hw σ4 _ hR4 (fun σ5 hR5 ag5 => ⟨_, rfl, ?_⟩)
      refine c_mixMo (d := d + 6) hw hR5 (fun σ6 o6 => ⟨_, rfl, ?_⟩)
      exact K σ6 (hR5.off o6) (AgM.tr hagc (AgM.tr (AgM.off o2) (AgM.tr (AgM.off o3) (AgM.tr (AgM.off o4) (AgM.tr ag5 (AgM.off o6))))))
    · intro c hc ih σc hRc hagc hPc
      have ech : fn_B_chapters σc = nI (nC A) := hRc.1.2.1
      refine sg_O_digest_58 (d := d + 5) ⟨fun q => ?_, fun _ => ?_⟩
      · rw [ech] at q
        exact absurd ((nI_leI (by omega) (by omega)).mp q) (by omega)
      · refine c_mixCh (d := d + 6) hw hRc hPc hc (fun σ' o' => ⟨_, rfl, ?_⟩)
        rw [nI_1]
        exact ih σ' (hRc.off o') (AgM.tr hagc (AgM.off o')) (hPc.off o')
  · intro k hk ih σk hR hag
    refine sg_O_digest_6 (d := d + 5) ⟨fun q => absurd ((nI_ltI (a := 7) (by decide) (by omega)).mp q) (by omega), fun _ => ?_⟩
    refine cs_count (d := d + 8) hw σk _ hR (fun σ' hR' ag' => ⟨_, rfl, ?_⟩)
    rw [nI_1]
    exact ih σ' hR' (AgM.tr hag ag')
-- the reference's
theorem ms_dig {A : ST} {d : Nat} (hw : Wf A) : MSp m_M_digest [some (vR 11 0), none, none, none, none] (d + 6) A A (vJ (dgV A)) := by
  intro σ post h K
  have h8 := nC_le hw
  refine sg_M_digest_0 ?_
  refine upto (n := 8) (P := fun k => ∀ σk, RepM A σk → AgC σ σk → Ev none (d + 6) m_M_digest 6 [some (vR 11 0), some (vJ (mixK (fun k => (an_count A (nI k)).toInt64) 17 k)), none, some (vI (nI k)), none] [] σk post) ?_ ?_ σ h (AgC.off (S := []) (F := []) OffM.rf)
  · intro σk hR hag
    refine sg_M_digest_6 ⟨fun _ => ?_, fun q => absurd (Int32.le_refl _) q⟩
    refine m_reads (d := d + 3) hw hR (fun σ0 h0 p0 o0 => ⟨_, rfl, ?_⟩)
    refine m_best (a := 0) (b := 1) (d := d + 1) hw h0 p0 (by decide) (by decide) (fun σ1 o1 hP => ⟨rfl, ?_⟩)
    refine upto (n := nC A) (P := fun c => ∀ σc, RepM A σc → Psd A σc → AgC σ σc → mPl A (pbv A 0 1) σc → Ev none (d + 6) m_M_digest 51 [some (vR 11 0), some (vJ (dgA A c)), none, some (vI (nI c)), none] [] σc post) ?_ ?_ σ1 (h0.off o1) (p0.off o1) (AgC.tr hag (AgC.tr (AgC.off o0) (AgC.off o1))) hP
    · intro σc hRc hpc hagc hPc
      refine sg_M_digest_51 ⟨fun _ => ?_, fun q => absurd (by rw [hpc.1]; exact Int32.le_refl _) q⟩
      refine upto (n := 3) (P := fun k => Ev none (d + 6) m_M_digest 205 [some (vR 11 0), some (vJ (mixK (fun k => (bsv A 0 1 (nI k)).toInt64) (dgA A (nC A)) k)), none, some (vI (nI k)), none] [] σc post) ?_ ?_
      · refine sg_M_digest_205 ⟨fun _ => ?_, fun q => absurd (Int32.le_refl _) q⟩
        refine m_best (a := 4) (b := 5) (d := d + 1) hw hRc hpc (by decide) (by decide) (fun σ2 o2 hP2 => ⟨rfl, ?_⟩)
        have hR2 := hRc.off o2
        have hp2 := hpc.off o2
        refine upto (n := 3) (P := fun k => Ev none (d + 6) m_M_digest 237 [some (vR 11 0), some (vJ (mixK (fun k => (bsv A 4 5 (nI k)).toInt64) (mixK (fun k => (bsv A 0 1 (nI k)).toInt64) (dgA A (nC A)) 3) k)), none, some (vI (nI k)), none] [] σ2 post) ?_ ?_
        · refine sg_M_digest_237 ⟨fun _ => ?_, fun q => absurd (Int32.le_refl _) q⟩
          refine m_rests (a := 0) (b := 1) hw hR2 hp2 (by decide) (by decide) ⟨_, rfl, m_rests (a := 0) (b := 1) hw hR2 hp2 (by decide) (by decide) ⟨_, rfl, m_gain (a := 0) (b := 1) (d := d + 2) hw hR2 hp2 (by decide) (by decide) ⟨_, rfl, m_gain (a := 1) (b := 0) (d := d + 2) hw hR2 hp2 (by decide) (by decide) ⟨_, rfl, ?_⟩⟩⟩⟩
          refine m_prs (s := 63) hw hR2 hp2 (by decide) p63 (Or.inl rfl) (fun σ3 o3 => ⟨_, rfl, ?_⟩)
          have ag3 : AgC σ σ3 := AgC.tr hagc (AgC.tr (AgC.off o2) (AgC.off o3))
          refine upto (n := 6) (P := fun r => ∀ σr, RepM A σr → Psd A σr → AgC σ σr → Ev none (d + 6) m_M_digest 340 [some (vR 11 0), some (vJ (dgS A r)), none, some (vI (nI r)), none] [] σr post) ?_ ?_ σ3 (hR2.off o3) (hp2.off o3) ag3
          · intro σr hRr hpr hagr
            refine sg_M_digest_340 ⟨fun _ => m_unl (d := d + 1) hw hRr hpr ⟨_, rfl, ?_⟩, fun q => absurd (Int32.le_refl _) q⟩
            refine upto (n := 2) (P := fun k => ∀ σk, RepM A σk → Psd A σk → AgC σ σk → Ev none (d + 6) m_M_digest 411 [some (vR 11 0), some (vJ (mixK (fun k => dnv A 7 60 (nI k)) (31 * dgS A 6 + (nI (ulK A (tN A))).toInt64) k)), none, some (vI (nI k)), none] [] σk post) ?_ ?_ σr hRr hpr hagr
            · intro σ4 hR4 hp4 ag4
              refine sg_M_digest_411 ⟨fun _ => ?_, fun q => absurd (Int32.le_refl _) q⟩
              refine upto (n := 2) (P := fun k => Ev none (d + 6) m_M_digest 440 [some (vR 11 0), some (vJ (mixK (fun k => mnv A 7 (nI k)) (mixK (fun k => dnv A 7 60 (nI k)) (31 * dgS A 6 + (nI (ulK A (tN A))).toInt64) 2) k)), none, some (vI (nI k)), none] [] σ4 post) ?_ ?_
              · exact sg_M_digest_440 ⟨fun _ => K σ4 hR4 ag4, fun q => absurd (Int32.le_refl _) q⟩
              · intro k hk ih
                refine sg_M_digest_440 ⟨fun q => absurd ((nI_leI (a := 2) (by decide) (by omega)).mp q) (by omega), fun _ => m_mnOf (s := 7) (d := d + 1) hw hR4 hp4 (by decide) p7 ⟨_, rfl, ?_⟩⟩
                rw [nI_1]
                exact ih
            · intro k hk ih σ4 hR4 hp4 ag4
              refine sg_M_digest_411 ⟨fun q => absurd ((nI_leI (a := 2) (by decide) (by omega)).mp q) (by omega), fun _ => m_dnOf (s := 7) (m := 60) hw hR4 hp4 (by decide) p7 (by decide) (fun σ5 o5 => ⟨_, rfl, ?_⟩)⟩
              rw [nI_1]
              exact ih σ5 (hR4.off o5) (hp4.off o5) (AgC.tr ag4 (AgC.off o5))
          · intro r hr ih σr hRr hpr hagr
            refine sg_M_digest_340 ⟨fun q => absurd ((nI_leI (a := 6) (by decide) (by omega)).mp q) (by omega), fun _ => ?_⟩
            refine m_prs (s := 63) hw hRr hpr (by decide) p63 (Or.inr ⟨nI_rg' (by omega) (by omega) (by omega), by rw [nI_ix (by omega)]; exact t63 r hr⟩) (fun σ4 o4 => ⟨_, rfl, ?_⟩)
            have hR4 := hRr.off o4
            have hp4 := hpr.off o4
            refine upto (n := 3) (P := fun k => Ev none (d + 6) m_M_digest 364 [some (vR 11 0), some (vJ (mixK (fun k => (fpK A r (nI k) 9).toInt64) (31 * dgS A r + (prv A 63 (nI r)).toInt64) k)), none, some (vI (nI r)), some (vI (nI k))] [] σ4 post) ?_ ?_
            · refine sg_M_digest_364 ⟨fun _ => ?_, fun q => absurd (Int32.le_refl _) q⟩
              rw [nI_1]
              exact ih σ4 hR4 hp4 (AgC.tr hagr (AgC.off o4))
            · intro k hk ihk
              refine sg_M_digest_364 ⟨fun q => absurd ((nI_leI (a := 3) (by decide) (by omega)).mp q) (by omega), fun _ => m_paces (d := d + 1) hw hR4 hp4 hr ⟨_, rfl, ?_⟩⟩
              rw [nI_1]
              exact ihk
        · intro k hk ih
          refine sg_M_digest_237 ⟨fun q => absurd ((nI_leI (a := 3) (by decide) (by omega)).mp q) (by omega), fun _ => ?_⟩
          rw [m_bestOf hP2, nI_1]
          exact ih
      · intro k hk ih
        refine sg_M_digest_205 ⟨fun q => absurd ((nI_leI (a := 3) (by decide) (by omega)).mp q) (by omega), fun _ => ?_⟩
        rw [m_bestOf hPc, nI_1]
        exact ih
    · intro c hc ih σc hRc hpc hagc hPc
      refine sg_M_digest_51 ⟨fun q => ?_, fun _ => ?_⟩
      · rw [hpc.1] at q
        exact absurd ((nI_leI (by omega) (by omega)).mp q) (by omega)
      refine upto (n := 3) (P := fun k => Ev none (d + 6) m_M_digest 62 [some (vR 11 0), some (vJ (mixK (fun k => (chv A c (nI k)).toInt64) (dgA A c) k)), none, some (vI (nI c)), some (vI (nI k))] [] σc post) ?_ ?_
      · refine sg_M_digest_62 ⟨fun _ => ?_, fun q => absurd (Int32.le_refl _) q⟩
        refine upto (n := 6) (P := fun r => Ev none (d + 6) m_M_digest 92 [some (vR 11 0), some (vJ (mixK (fun r => (tm A r c).toInt64) (mixK (fun k => (chv A c (nI k)).toInt64) (dgA A c) 3) r)), none, some (vI (nI c)), some (vI (nI r))] [] σc post) ?_ ?_
        · refine sg_M_digest_92 ⟨fun _ => ?_, fun q => absurd (Int32.le_refl _) q⟩
          refine upto (n := 3) (P := fun k => ∀ σk, RepM A σk → Psd A σk → AgC σ σk → mPl A (pbv A 0 1) σk → Ev none (d + 6) m_M_digest 123 [some (vR 11 0), some (vJ (mixK (fun k => (evv A 3 c (nI k)).toInt64) (mixK (fun r => (tm A r c).toInt64) (mixK (fun k => (chv A c (nI k)).toInt64) (dgA A c) 3) 6) k)), none, some (vI (nI c)), some (vI (nI k))] [] σk post) ?_ ?_ σc hRc hpc hagc hPc
          · intro σ4 hR4 hp4 ag4 hP4
            refine sg_M_digest_123 ⟨fun _ => ?_, fun q => absurd (Int32.le_refl _) q⟩
            refine m_wtOf (r := 1) hw hR4 hp4 hc (by decide) h31 (fun σ5 o5 => ⟨_, rfl, m_wtOf (r := 1) hw (hR4.off o5) (hp4.off o5) hc (by decide) h31 (fun σ6 o6 => ⟨_, rfl, vpin (by omega) (by decide), ?_⟩)⟩)
            rw [nI_ix (by omega), ((hP4.off o5).off o6).1.2.2.2 c hc, nI_1]
            exact ih σ6 ((hR4.off o5).off o6) ((hp4.off o5).off o6) (AgC.tr ag4 (AgC.tr (AgC.off o5) (AgC.off o6))) ((hP4.off o5).off o6)
          · intro k hk ihk σ4 hR4 hp4 ag4 hP4
            refine sg_M_digest_123 ⟨fun q => absurd ((nI_leI (a := 3) (by decide) (by omega)).mp q) (by omega), fun _ => m_evOf hw hR4 hp4 hc (fun σ5 o5 => ⟨_, rfl, ?_⟩)⟩
            rw [nI_1]
            exact ihk σ5 (hR4.off o5) (hp4.off o5) (AgC.tr ag4 (AgC.off o5)) (hP4.off o5)
        · intro r hr ihr
          obtain ⟨t1, t2⟩ := m_tm hw hRc hpc hr hc
          refine sg_M_digest_92 ⟨fun q => absurd ((nI_leI (a := 6) (by decide) (by omega)).mp q) (by omega), fun _ => ⟨t2, ?_⟩⟩
          rw [t1, nI_1]
          exact ihr
      · intro k hk ihk
        obtain ⟨e1, e2⟩ := m_chv hw hRc hpc hc (a2 := nI k)
        refine sg_M_digest_62 ⟨fun q => absurd ((nI_leI (a := 3) (by decide) (by omega)).mp q) (by omega), fun _ => ⟨e2, ?_⟩⟩
        rw [e1, nI_1]
        exact ihk
  · intro k hk ih σk hR hag
    refine sg_M_digest_6 ⟨fun q => absurd ((nI_leI (a := 8) (by decide) (by omega)).mp q) (by omega), fun _ => ?_⟩
    refine m_cnt (d := d + 2) hw hR (fun σ' h1 h2 h3 => ⟨_, rfl, ?_⟩)
    rw [nI_1]
    exact ih σ' h1 (AgC.tr hag (AgC.off h3))
