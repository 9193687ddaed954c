-- the law: a row for each of its cases (by program: wip/gen/gen_end.py)
theorem vq {i j n : Nat} (h : i + j < n) (hn : n ≤ 3072) : vp_in (nI i + nI j) n := by
  rw [nI_add]
  exact vpin h (by omega)
abbrev Nxt (n : Nat) (xs : Nat → Int32) (i : Nat) : Prop := ∀ (A σ : ST), Wf A → RepC A σ → RepM A σ → Ev (some (n, xs)) (12 + 8) m_L_law 18 [some (vR 63 0), some (vR 0 0), some (vR 11 0), some (vI (nI (i + 6)))] [] σ lawPost
theorem c_timv {A σ : ST} {a1 a2 : Int32} (hw : Wf A) (h : RepC A σ) : fn_O_time σ a1 a2 = an_time A a1 a2 ∧ fs_O_time σ a1 a2 := by
  have h8 := nC_le hw
  unfold fn_O_time an_time fs_O_time
  by_cases g1 : rg a1 0 5
  · rw [if_pos ((wi 0 5).mpr g1)]
    by_cases g2 : rg a2 0 ((nC A : Int) - 1)
    · rw [if_pos ((c_isCh hw h).mpr g2), if_pos ⟨g1, g2⟩]
      obtain ⟨r, hr, rfl⟩ := rg_nI (n := 5) g1
      obtain ⟨c, hc, rfl⟩ := ch_ix hw g2
      obtain ⟨e1, e2⟩ := c_tm hw h (show r < 6 by omega) hc
      rw [nI_ix (by omega), nI_ix (by omega)]
      exact ⟨e1, fun _ => ⟨fun _ => e2, fun _ => trivial⟩, fun _ => trivial⟩
    · rw [if_neg (fun q => g2 ((c_isCh hw h).mp q)), if_neg (fun q => g2 q.2)]
      exact ⟨rfl, fun _ => ⟨fun q => absurd ((c_isCh hw h).mp q) g2, fun _ => trivial⟩, fun _ => trivial⟩
  · rw [if_neg (fun q => g1 ((wi 0 5).mp q)), if_neg (fun q => g1 q.1)]
    exact ⟨rfl, fun q => absurd ((wi 0 5).mp q) g1, fun _ => trivial⟩
theorem lc_type {n i : Nat} {xs : Nat → Int32} {A σ : ST} (hi : i + 5 < n) (hn : n ≤ 3072) (hw : Wf A) (hC : RepC A σ) (hM : RepM A σ) (N : Nxt n xs i) : Ev (some (n, xs)) (12 + 8) m_L_law 176 [some (vR 63 0), some (vR 0 0), some (vR 11 0), some (vI (nI i))] [] σ lawPost := by
  have e6 : nI i + 6 = nI (i + 6) := nI_add i 6
  refine sg_L_law_176 (d := 12) ⟨vq (j := 1) (by omega) hn, cs_type (d := 14) hw σ _ hC (fun s1 hC1 ag1 => ⟨_, rfl, vq (j := 1) (by omega) hn, ms_type (d := 18) hw s1 _ (hM.ag ag1) (fun s2 hM2 ag2 => ⟨_, rfl, fun _ => ?_, fun q => absurd rfl q⟩)⟩)⟩
  rw [e6]
  exact N _ s2 (wf_type hw) (hC1.ag ag2) hM2
theorem lc_wipe {n i : Nat} {xs : Nat → Int32} {A σ : ST} (hi : i + 5 < n) (hn : n ≤ 3072) (hw : Wf A) (hC : RepC A σ) (hM : RepM A σ) (N : Nxt n xs i) : Ev (some (n, xs)) (12 + 8) m_L_law 199 [some (vR 63 0), some (vR 0 0), some (vR 11 0), some (vI (nI i))] [] σ lawPost := by
  have e6 : nI i + 6 = nI (i + 6) := nI_add i 6
  refine sg_L_law_199 (d := 12) (cs_wipe (d := 14) σ _ hC (fun s1 hC1 ag1 => ⟨_, rfl, ms_wipe (d := 19) s1 _ (hM.ag ag1) (fun s2 hM2 ag2 => ⟨_, rfl, fun _ => ?_, fun q => absurd rfl q⟩)⟩))
  rw [e6]
  exact N _ s2 (wf_wipe hw) (hC1.ag ag2) hM2
theorem lc_fault {n i : Nat} {xs : Nat → Int32} {A σ : ST} (hi : i + 5 < n) (hn : n ≤ 3072) (hw : Wf A) (hC : RepC A σ) (hM : RepM A σ) (N : Nxt n xs i) : Ev (some (n, xs)) (12 + 8) m_L_law 212 [some (vR 63 0), some (vR 0 0), some (vR 11 0), some (vI (nI i))] [] σ lawPost := by
  have e6 : nI i + 6 = nI (i + 6) := nI_add i 6
  have ef : fn_O_fault σ = flt (A.1 1 0) (sN A) := hC.1.2.2.1
  refine sg_L_law_212 (d := 12) (ms_fault (d := 16) hw σ _ hM (fun s2 hM2 ag2 => ⟨_, rfl, fun _ => ?_, fun q => absurd ef q⟩))
  rw [e6]
  exact N _ s2 hw (hC.ag ag2) hM2
theorem lc_chap {n i : Nat} {xs : Nat → Int32} {A σ : ST} (hi : i + 5 < n) (hn : n ≤ 3072) (hw : Wf A) (hC : RepC A σ) (hM : RepM A σ) (N : Nxt n xs i) : Ev (some (n, xs)) (12 + 8) m_L_law 225 [some (vR 63 0), some (vR 0 0), some (vR 11 0), some (vI (nI i))] [] σ lawPost := by
  have e6 : nI i + 6 = nI (i + 6) := nI_add i 6
  have ef := c_chv hw hC (a1 := xs ((nI i + 1).toNatClampNeg)) (a2 := xs ((nI i + 2).toNatClampNeg))
  refine sg_L_law_225 (d := 12) ⟨vq (j := 1) (by omega) hn, vq (j := 2) (by omega) hn, ef.2, vq (j := 1) (by omega) hn, vq (j := 2) (by omega) hn, ms_chap (d := 15) hw σ _ hM (fun s2 hM2 ag2 => ⟨_, rfl, fun _ => ?_, fun q => absurd ef.1 q⟩)⟩
  rw [e6]
  exact N _ s2 hw (hC.ag ag2) hM2
theorem lc_pace {n i : Nat} {xs : Nat → Int32} {A σ : ST} (hi : i + 5 < n) (hn : n ≤ 3072) (hw : Wf A) (hC : RepC A σ) (hM : RepM A σ) (N : Nxt n xs i) : Ev (some (n, xs)) (12 + 8) m_L_law 258 [some (vR 63 0), some (vR 0 0), some (vR 11 0), some (vI (nI i))] [] σ lawPost := by
  have e6 : nI i + 6 = nI (i + 6) := nI_add i 6
  refine sg_L_law_258 (d := 12) ⟨vq (j := 1) (by omega) hn, vq (j := 2) (by omega) hn, vq (j := 3) (by omega) hn, cs_pace (d := 17) σ _ hC (fun s1 hC1 ag1 => ⟨_, rfl, vq (j := 1) (by omega) hn, vq (j := 2) (by omega) hn, vq (j := 3) (by omega) hn, ms_pace (d := 17) s1 _ (hM.ag ag1) (fun s2 hM2 ag2 => ⟨_, rfl, fun _ => ?_, fun q => absurd rfl q⟩)⟩)⟩
  rw [e6]
  exact N _ s2 (wf_pace hw) (hC1.ag ag2) hM2
theorem lc_read {n i : Nat} {xs : Nat → Int32} {A σ : ST} (hi : i + 5 < n) (hn : n ≤ 3072) (hw : Wf A) (hC : RepC A σ) (hM : RepM A σ) (N : Nxt n xs i) : Ev (some (n, xs)) (12 + 8) m_L_law 301 [some (vR 63 0), some (vR 0 0), some (vR 11 0), some (vI (nI i))] [] σ lawPost := by
  have e6 : nI i + 6 = nI (i + 6) := nI_add i 6
  refine sg_L_law_301 (d := 12) ⟨vq (j := 1) (by omega) hn, vq (j := 2) (by omega) hn, cs_read (d := 17) hw σ _ hC (fun s1 hC1 ag1 => ⟨_, rfl, vq (j := 1) (by omega) hn, vq (j := 2) (by omega) hn, ms_read (d := 16) hw s1 _ (hM.ag ag1) (fun s2 hM2 ag2 => ⟨_, rfl, fun _ => ?_, fun q => absurd rfl q⟩)⟩)⟩
  rw [e6]
  exact N _ s2 (wf_read hw) (hC1.ag ag2) hM2
theorem lc_like {n i : Nat} {xs : Nat → Int32} {A σ : ST} (hi : i + 5 < n) (hn : n ≤ 3072) (hw : Wf A) (hC : RepC A σ) (hM : RepM A σ) (N : Nxt n xs i) : Ev (some (n, xs)) (12 + 8) m_L_law 334 [some (vR 63 0), some (vR 0 0), some (vR 11 0), some (vI (nI i))] [] σ lawPost := by
  have e6 : nI i + 6 = nI (i + 6) := nI_add i 6
  refine sg_L_law_334 (d := 12) ⟨vq (j := 1) (by omega) hn, vq (j := 2) (by omega) hn, vq (j := 3) (by omega) hn, cs_like (d := 17) hw σ _ hC (fun s1 hC1 ag1 => ⟨_, rfl, vq (j := 1) (by omega) hn, vq (j := 2) (by omega) hn, vq (j := 3) (by omega) hn, ms_like (d := 17) hw s1 _ (hM.ag ag1) (fun s2 hM2 ag2 => ⟨_, rfl, fun _ => ?_, fun q => absurd rfl q⟩)⟩)⟩
  rw [e6]
  exact N _ s2 (wf_like hw) (hC1.ag ag2) hM2
theorem lc_skip {n i : Nat} {xs : Nat → Int32} {A σ : ST} (hi : i + 5 < n) (hn : n ≤ 3072) (hw : Wf A) (hC : RepC A σ) (hM : RepM A σ) (N : Nxt n xs i) : Ev (some (n, xs)) (12 + 8) m_L_law 377 [some (vR 63 0), some (vR 0 0), some (vR 11 0), some (vI (nI i))] [] σ lawPost := by
  have e6 : nI i + 6 = nI (i + 6) := nI_add i 6
  refine sg_L_law_377 (d := 12) ⟨vq (j := 1) (by omega) hn, vq (j := 2) (by omega) hn, cs_skip (d := 18) hw σ _ hC (fun s1 hC1 ag1 => ⟨_, rfl, vq (j := 1) (by omega) hn, vq (j := 2) (by omega) hn, ms_skip (d := 17) hw s1 _ (hM.ag ag1) (fun s2 hM2 ag2 => ⟨_, rfl, fun _ => ?_, fun q => absurd rfl q⟩)⟩)⟩
  rw [e6]
  exact N _ s2 (wf_skip hw) (hC1.ag ag2) hM2
theorem lc_reader {n i : Nat} {xs : Nat → Int32} {A σ : ST} (hi : i + 5 < n) (hn : n ≤ 3072) (hw : Wf A) (hC : RepC A σ) (hM : RepM A σ) (N : Nxt n xs i) : Ev (some (n, xs)) (12 + 8) m_L_law 410 [some (vR 63 0), some (vR 0 0), some (vR 11 0), some (vI (nI i))] [] σ lawPost := by
  have e6 : nI i + 6 = nI (i + 6) := nI_add i 6
  refine sg_L_law_410 (d := 12) ⟨vq (j := 1) (by omega) hn, vq (j := 2) (by omega) hn, vq (j := 3) (by omega) hn, cs_reader (d := 17) σ _ hC (fun s1 hC1 ag1 => ⟨_, rfl, vq (j := 1) (by omega) hn, vq (j := 2) (by omega) hn, vq (j := 3) (by omega) hn, ms_reader (d := 17) s1 _ (hM.ag ag1) (fun s2 hM2 ag2 => ⟨_, rfl, fun _ => ?_, fun q => absurd rfl q⟩)⟩)⟩
  rw [e6]
  exact N _ s2 (wf_reader hw) (hC1.ag ag2) hM2
theorem lc_set {n i : Nat} {xs : Nat → Int32} {A σ : ST} (hi : i + 5 < n) (hn : n ≤ 3072) (hw : Wf A) (hC : RepC A σ) (hM : RepM A σ) (N : Nxt n xs i) : Ev (some (n, xs)) (12 + 8) m_L_law 453 [some (vR 63 0), some (vR 0 0), some (vR 11 0), some (vI (nI i))] [] σ lawPost := by
  have e6 : nI i + 6 = nI (i + 6) := nI_add i 6
  refine sg_L_law_453 (d := 12) ⟨vq (j := 1) (by omega) hn, vq (j := 2) (by omega) hn, cs_set (d := 18) σ _ hC (fun s1 hC1 ag1 => ⟨_, rfl, vq (j := 1) (by omega) hn, vq (j := 2) (by omega) hn, ms_set (d := 17) s1 _ (hM.ag ag1) (fun s2 hM2 ag2 => ⟨_, rfl, fun _ => ?_, fun q => absurd rfl q⟩)⟩)⟩
  rw [e6]
  exact N _ s2 (wf_set hw) (hC1.ag ag2) hM2
theorem lc_time {n i : Nat} {xs : Nat → Int32} {A σ : ST} (hi : i + 5 < n) (hn : n ≤ 3072) (hw : Wf A) (hC : RepC A σ) (hM : RepM A σ) (N : Nxt n xs i) : Ev (some (n, xs)) (12 + 8) m_L_law 486 [some (vR 63 0), some (vR 0 0), some (vR 11 0), some (vI (nI i))] [] σ lawPost := by
  have e6 : nI i + 6 = nI (i + 6) := nI_add i 6
  have ef := c_timv hw hC (a1 := xs ((nI i + 1).toNatClampNeg)) (a2 := xs ((nI i + 2).toNatClampNeg))
  refine sg_L_law_486 (d := 12) ⟨vq (j := 1) (by omega) hn, vq (j := 2) (by omega) hn, ef.2, vq (j := 1) (by omega) hn, vq (j := 2) (by omega) hn, ms_time (d := 15) hw σ _ hM (fun s2 hM2 ag2 => ⟨_, rfl, fun _ => ?_, fun q => absurd ef.1 q⟩)⟩
  rw [e6]
  exact N _ s2 hw (hC.ag ag2) hM2
theorem lc_even {n i : Nat} {xs : Nat → Int32} {A σ : ST} (hi : i + 5 < n) (hn : n ≤ 3072) (hw : Wf A) (hC : RepC A σ) (hM : RepM A σ) (N : Nxt n xs i) : Ev (some (n, xs)) (12 + 8) m_L_law 519 [some (vR 63 0), some (vR 0 0), some (vR 11 0), some (vI (nI i))] [] σ lawPost := by
  have e6 : nI i + 6 = nI (i + 6) := nI_add i 6
  refine sg_L_law_519 (d := 12) ⟨vq (j := 1) (by omega) hn, vq (j := 2) (by omega) hn, vq (j := 3) (by omega) hn, cs_even (d := 14) hw σ _ hC (fun s1 hC1 ag1 => ⟨_, rfl, vq (j := 1) (by omega) hn, vq (j := 2) (by omega) hn, vq (j := 3) (by omega) hn, ms_even (d := 13) hw s1 _ (hM.ag ag1) (fun s2 hM2 ag2 => ⟨_, rfl, fun _ => ?_, fun q => absurd rfl q⟩)⟩)⟩
  rw [e6]
  exact N _ s2 hw (hC1.ag ag2) hM2
theorem lc_wait {n i : Nat} {xs : Nat → Int32} {A σ : ST} (hi : i + 5 < n) (hn : n ≤ 3072) (hw : Wf A) (hC : RepC A σ) (hM : RepM A σ) (N : Nxt n xs i) : Ev (some (n, xs)) (12 + 8) m_L_law 562 [some (vR 63 0), some (vR 0 0), some (vR 11 0), some (vI (nI i))] [] σ lawPost := by
  have e6 : nI i + 6 = nI (i + 6) := nI_add i 6
  refine sg_L_law_562 (d := 12) ⟨vq (j := 1) (by omega) hn, vq (j := 2) (by omega) hn, vq (j := 3) (by omega) hn, vq (j := 4) (by omega) hn, cs_wait (d := 14) hw σ _ hC (fun s1 hC1 ag1 => ⟨_, rfl, vq (j := 1) (by omega) hn, vq (j := 2) (by omega) hn, vq (j := 3) (by omega) hn, vq (j := 4) (by omega) hn, ms_wait (d := 13) hw s1 _ (hM.ag ag1) (fun s2 hM2 ag2 => ⟨_, rfl, fun _ => ?_, fun q => absurd rfl q⟩)⟩)⟩
  rw [e6]
  exact N _ s2 hw (hC1.ag ag2) hM2
theorem lc_best {n i : Nat} {xs : Nat → Int32} {A σ : ST} (hi : i + 5 < n) (hn : n ≤ 3072) (hw : Wf A) (hC : RepC A σ) (hM : RepM A σ) (N : Nxt n xs i) : Ev (some (n, xs)) (12 + 8) m_L_law 615 [some (vR 63 0), some (vR 0 0), some (vR 11 0), some (vI (nI i))] [] σ lawPost := by
  have e6 : nI i + 6 = nI (i + 6) := nI_add i 6
  refine sg_L_law_615 (d := 12) ⟨vq (j := 1) (by omega) hn, vq (j := 2) (by omega) hn, vq (j := 3) (by omega) hn, cs_best (d := 7) hw σ _ hC (fun s1 hC1 ag1 => ⟨_, rfl, vq (j := 1) (by omega) hn, vq (j := 2) (by omega) hn, vq (j := 3) (by omega) hn, ms_best (d := 14) hw s1 _ (hM.ag ag1) (fun s2 hM2 ag2 => ⟨_, rfl, fun _ => ?_, fun q => absurd rfl q⟩)⟩)⟩
  rw [e6]
  exact N _ s2 hw (hC1.ag ag2) hM2
theorem lc_how {n i : Nat} {xs : Nat → Int32} {A σ : ST} (hi : i + 5 < n) (hn : n ≤ 3072) (hw : Wf A) (hC : RepC A σ) (hM : RepM A σ) (N : Nxt n xs i) : Ev (some (n, xs)) (12 + 8) m_L_law 658 [some (vR 63 0), some (vR 0 0), some (vR 11 0), some (vI (nI i))] [] σ lawPost := by
  have e6 : nI i + 6 = nI (i + 6) := nI_add i 6
  refine sg_L_law_658 (d := 12) ⟨vq (j := 1) (by omega) hn, vq (j := 2) (by omega) hn, vq (j := 3) (by omega) hn, cs_how (d := 7) hw σ _ hC (fun s1 hC1 ag1 => ⟨_, rfl, vq (j := 1) (by omega) hn, vq (j := 2) (by omega) hn, vq (j := 3) (by omega) hn, ms_how (d := 14) hw s1 _ (hM.ag ag1) (fun s2 hM2 ag2 => ⟨_, rfl, fun _ => ?_, fun q => absurd rfl q⟩)⟩)⟩
  rw [e6]
  exact N _ s2 hw (hC1.ag ag2) hM2
theorem lc_gain {n i : Nat} {xs : Nat → Int32} {A σ : ST} (hi : i + 5 < n) (hn : n ≤ 3072) (hw : Wf A) (hC : RepC A σ) (hM : RepM A σ) (N : Nxt n xs i) : Ev (some (n, xs)) (12 + 8) m_L_law 701 [some (vR 63 0), some (vR 0 0), some (vR 11 0), some (vI (nI i))] [] σ lawPost := by
  have e6 : nI i + 6 = nI (i + 6) := nI_add i 6
  refine sg_L_law_701 (d := 12) ⟨vq (j := 1) (by omega) hn, vq (j := 2) (by omega) hn, vq (j := 3) (by omega) hn, vq (j := 4) (by omega) hn, cs_gain (d := 15) hw σ _ hC (fun s1 hC1 ag1 => ⟨_, rfl, vq (j := 1) (by omega) hn, vq (j := 2) (by omega) hn, vq (j := 3) (by omega) hn, vq (j := 4) (by omega) hn, ms_gain (d := 15) hw s1 _ (hM.ag ag1) (fun s2 hM2 ag2 => ⟨_, rfl, fun _ => ?_, fun q => absurd rfl q⟩)⟩)⟩
  rw [e6]
  exact N _ s2 hw (hC1.ag ag2) hM2
theorem lc_rest {n i : Nat} {xs : Nat → Int32} {A σ : ST} (hi : i + 5 < n) (hn : n ≤ 3072) (hw : Wf A) (hC : RepC A σ) (hM : RepM A σ) (N : Nxt n xs i) : Ev (some (n, xs)) (12 + 8) m_L_law 754 [some (vR 63 0), some (vR 0 0), some (vR 11 0), some (vI (nI i))] [] σ lawPost := by
  have e6 : nI i + 6 = nI (i + 6) := nI_add i 6
  refine sg_L_law_754 (d := 12) ⟨vq (j := 1) (by omega) hn, vq (j := 2) (by omega) hn, vq (j := 3) (by omega) hn, cs_rest (d := 14) hw σ _ hC (fun s1 hC1 ag1 => ⟨_, rfl, vq (j := 1) (by omega) hn, vq (j := 2) (by omega) hn, vq (j := 3) (by omega) hn, ms_rest (d := 13) hw s1 _ (hM.ag ag1) (fun s2 hM2 ag2 => ⟨_, rfl, fun _ => ?_, fun q => absurd rfl q⟩)⟩)⟩
  rw [e6]
  exact N _ s2 hw (hC1.ag ag2) hM2
theorem lc_prs {n i : Nat} {xs : Nat → Int32} {A σ : ST} (hi : i + 5 < n) (hn : n ≤ 3072) (hw : Wf A) (hC : RepC A σ) (hM : RepM A σ) (N : Nxt n xs i) : Ev (some (n, xs)) (12 + 8) m_L_law 797 [some (vR 63 0), some (vR 0 0), some (vR 11 0), some (vI (nI i))] [] σ lawPost := by
  have e6 : nI i + 6 = nI (i + 6) := nI_add i 6
  refine sg_L_law_797 (d := 12) ⟨vq (j := 1) (by omega) hn, vq (j := 2) (by omega) hn, cs_prs (d := 14) hw σ _ hC (fun s1 hC1 ag1 => ⟨_, rfl, vq (j := 1) (by omega) hn, vq (j := 2) (by omega) hn, ms_prs (d := 13) hw s1 _ (hM.ag ag1) (fun s2 hM2 ag2 => ⟨_, rfl, fun _ => ?_, fun q => absurd rfl q⟩)⟩)⟩
  rw [e6]
  exact N _ s2 hw (hC1.ag ag2) hM2
theorem lc_turn {n i : Nat} {xs : Nat → Int32} {A σ : ST} (hi : i + 5 < n) (hn : n ≤ 3072) (hw : Wf A) (hC : RepC A σ) (hM : RepM A σ) (N : Nxt n xs i) : Ev (some (n, xs)) (12 + 8) m_L_law 830 [some (vR 63 0), some (vR 0 0), some (vR 11 0), some (vI (nI i))] [] σ lawPost := by
  have e6 : nI i + 6 = nI (i + 6) := nI_add i 6
  refine sg_L_law_830 (d := 12) ⟨vq (j := 1) (by omega) hn, vq (j := 2) (by omega) hn, vq (j := 3) (by omega) hn, cs_turn (d := 17) hw σ _ hC (fun s1 hC1 ag1 => ⟨_, rfl, vq (j := 1) (by omega) hn, vq (j := 2) (by omega) hn, vq (j := 3) (by omega) hn, ms_turn (d := 17) hw s1 _ (hM.ag ag1) (fun s2 hM2 ag2 => ⟨_, rfl, fun _ => ?_, fun q => absurd rfl q⟩)⟩)⟩
  rw [e6]
  exact N _ s2 (wf_turn hw) (hC1.ag ag2) hM2
theorem lc_forget {n i : Nat} {xs : Nat → Int32} {A σ : ST} (hi : i + 5 < n) (hn : n ≤ 3072) (hw : Wf A) (hC : RepC A σ) (hM : RepM A σ) (N : Nxt n xs i) : Ev (some (n, xs)) (12 + 8) m_L_law 873 [some (vR 63 0), some (vR 0 0), some (vR 11 0), some (vI (nI i))] [] σ lawPost := by
  have e6 : nI i + 6 = nI (i + 6) := nI_add i 6
  refine sg_L_law_873 (d := 12) (cs_forget (d := 18) σ _ hC (fun s1 hC1 ag1 => ⟨_, rfl, ms_forget (d := 19) s1 _ (hM.ag ag1) (fun s2 hM2 ag2 => ⟨_, rfl, fun _ => ?_, fun q => absurd rfl q⟩)⟩))
  rw [e6]
  exact N _ s2 (wf_forget hw) (hC1.ag ag2) hM2
theorem lc_paces {n i : Nat} {xs : Nat → Int32} {A σ : ST} (hi : i + 5 < n) (hn : n ≤ 3072) (hw : Wf A) (hC : RepC A σ) (hM : RepM A σ) (N : Nxt n xs i) : Ev (some (n, xs)) (12 + 8) m_L_law 886 [some (vR 63 0), some (vR 0 0), some (vR 11 0), some (vI (nI i))] [] σ lawPost := by
  have e6 : nI i + 6 = nI (i + 6) := nI_add i 6
  refine sg_L_law_886 (d := 12) ⟨vq (j := 1) (by omega) hn, vq (j := 2) (by omega) hn, cs_paces (d := 13) hw σ _ hC (fun s1 hC1 ag1 => ⟨_, rfl, vq (j := 1) (by omega) hn, vq (j := 2) (by omega) hn, ms_paces (d := 14) hw s1 _ (hM.ag ag1) (fun s2 hM2 ag2 => ⟨_, rfl, fun _ => ?_, fun q => absurd rfl q⟩)⟩)⟩
  rw [e6]
  exact N _ s2 hw (hC1.ag ag2) hM2
theorem lc_unl {n i : Nat} {xs : Nat → Int32} {A σ : ST} (hi : i + 5 < n) (hn : n ≤ 3072) (hw : Wf A) (hC : RepC A σ) (hM : RepM A σ) (N : Nxt n xs i) : Ev (some (n, xs)) (12 + 8) m_L_law 919 [some (vR 63 0), some (vR 0 0), some (vR 11 0), some (vI (nI i))] [] σ lawPost := by
  have e6 : nI i + 6 = nI (i + 6) := nI_add i 6
  refine sg_L_law_919 (d := 12) (cs_unl (d := 15) hw σ _ hC (fun s1 hC1 ag1 => ⟨_, rfl, ms_unl (d := 14) hw s1 _ (hM.ag ag1) (fun s2 hM2 ag2 => ⟨_, rfl, fun _ => ?_, fun q => absurd rfl q⟩)⟩))
  rw [e6]
  exact N _ s2 hw (hC1.ag ag2) hM2
theorem lc_done {n i : Nat} {xs : Nat → Int32} {A σ : ST} (hi : i + 5 < n) (hn : n ≤ 3072) (hw : Wf A) (hC : RepC A σ) (hM : RepM A σ) (N : Nxt n xs i) : Ev (some (n, xs)) (12 + 8) m_L_law 932 [some (vR 63 0), some (vR 0 0), some (vR 11 0), some (vI (nI i))] [] σ lawPost := by
  have e6 : nI i + 6 = nI (i + 6) := nI_add i 6
  refine sg_L_law_932 (d := 12) ⟨vq (j := 1) (by omega) hn, vq (j := 2) (by omega) hn, vq (j := 3) (by omega) hn, cs_done (d := 14) hw σ _ hC (fun s1 hC1 ag1 => ⟨_, rfl, vq (j := 1) (by omega) hn, vq (j := 2) (by omega) hn, vq (j := 3) (by omega) hn, ms_done (d := 13) hw s1 _ (hM.ag ag1) (fun s2 hM2 ag2 => ⟨_, rfl, fun _ => ?_, fun q => absurd rfl q⟩)⟩)⟩
  rw [e6]
  exact N _ s2 hw (hC1.ag ag2) hM2
theorem lc_mean {n i : Nat} {xs : Nat → Int32} {A σ : ST} (hi : i + 5 < n) (hn : n ≤ 3072) (hw : Wf A) (hC : RepC A σ) (hM : RepM A σ) (N : Nxt n xs i) : Ev (some (n, xs)) (12 + 8) m_L_law 976 [some (vR 63 0), some (vR 0 0), some (vR 11 0), some (vI (nI i))] [] σ lawPost := by
  have e6 : nI i + 6 = nI (i + 6) := nI_add i 6
  refine sg_L_law_976 (d := 12) ⟨vq (j := 1) (by omega) hn, vq (j := 2) (by omega) hn, cs_mean (d := 14) hw σ _ hC (fun s1 hC1 ag1 => ⟨_, rfl, vq (j := 1) (by omega) hn, vq (j := 2) (by omega) hn, ms_mean (d := 14) hw s1 _ (hM.ag ag1) (fun s2 hM2 ag2 => ⟨_, rfl, fun _ => ?_, fun q => absurd rfl q⟩)⟩)⟩
  rw [e6]
  exact N _ s2 hw (hC1.ag ag2) hM2
theorem lc_sheet {n i : Nat} {xs : Nat → Int32} {A σ : ST} (hi : i + 5 < n) (hn : n ≤ 3072) (hw : Wf A) (hC : RepC A σ) (hM : RepM A σ) (N : Nxt n xs i) : Ev (some (n, xs)) (12 + 8) m_L_law 1010 [some (vR 63 0), some (vR 0 0), some (vR 11 0), some (vI (nI i))] [] σ lawPost := by
  have e6 : nI i + 6 = nI (i + 6) := nI_add i 6
  refine sg_L_law_1010 (d := 12) ⟨vq (j := 1) (by omega) hn, vq (j := 2) (by omega) hn, vq (j := 3) (by omega) hn, cs_sheet (d := 17) σ _ hC (fun s1 hC1 ag1 => ⟨_, rfl, vq (j := 1) (by omega) hn, vq (j := 2) (by omega) hn, vq (j := 3) (by omega) hn, ms_sheet (d := 17) hw s1 _ (hM.ag ag1) (fun s2 hM2 ag2 => ⟨_, rfl, fun _ => ?_, fun q => absurd rfl q⟩)⟩)⟩
  rw [e6]
  exact N _ s2 (wf_sheet hw) (hC1.ag ag2) hM2
theorem lc_lose {n i : Nat} {xs : Nat → Int32} {A σ : ST} (hi : i + 5 < n) (hn : n ≤ 3072) (hw : Wf A) (hC : RepC A σ) (hM : RepM A σ) (N : Nxt n xs i) : Ev (some (n, xs)) (12 + 8) m_L_law 1053 [some (vR 63 0), some (vR 0 0), some (vR 11 0), some (vI (nI i))] [] σ lawPost := by
  have e6 : nI i + 6 = nI (i + 6) := nI_add i 6
  refine sg_L_law_1053 (d := 12) ⟨vq (j := 1) (by omega) hn, cs_lose (d := 17) hw σ _ hC (fun s1 hC1 ag1 => ⟨_, rfl, vq (j := 1) (by omega) hn, ms_lose (d := 17) hw s1 _ (hM.ag ag1) (fun s2 hM2 ag2 => ⟨_, rfl, fun _ => ?_, fun q => absurd rfl q⟩)⟩)⟩
  rw [e6]
  exact N _ s2 (wf_lose hw) (hC1.ag ag2) hM2
theorem lc_lay {n i : Nat} {xs : Nat → Int32} {A σ : ST} (hi : i + 5 < n) (hn : n ≤ 3072) (hw : Wf A) (hC : RepC A σ) (hM : RepM A σ) (N : Nxt n xs i) : Ev (some (n, xs)) (12 + 8) m_L_law 1076 [some (vR 63 0), some (vR 0 0), some (vR 11 0), some (vI (nI i))] [] σ lawPost := by
  have e6 : nI i + 6 = nI (i + 6) := nI_add i 6
  refine sg_L_law_1076 (d := 12) ⟨vq (j := 1) (by omega) hn, vq (j := 2) (by omega) hn, vq (j := 3) (by omega) hn, vq (j := 4) (by omega) hn, cs_lay (d := 17) hw σ _ hC (fun s1 hC1 ag1 => ⟨_, rfl, vq (j := 1) (by omega) hn, vq (j := 2) (by omega) hn, vq (j := 3) (by omega) hn, vq (j := 4) (by omega) hn, ms_lay (d := 17) hw s1 _ (hM.ag ag1) (fun s2 hM2 ag2 => ⟨_, rfl, fun _ => ?_, fun q => absurd rfl q⟩)⟩)⟩
  rw [e6]
  exact N _ s2 (wf_lay hw) (hC1.ag ag2) hM2
theorem lc_get {n i : Nat} {xs : Nat → Int32} {A σ : ST} (hi : i + 5 < n) (hn : n ≤ 3072) (hw : Wf A) (hC : RepC A σ) (hM : RepM A σ) (N : Nxt n xs i) : Ev (some (n, xs)) (12 + 8) m_L_law 1129 [some (vR 63 0), some (vR 0 0), some (vR 11 0), some (vI (nI i))] [] σ lawPost := by
  have e6 : nI i + 6 = nI (i + 6) := nI_add i 6
  refine sg_L_law_1129 (d := 12) ⟨vq (j := 1) (by omega) hn, vq (j := 2) (by omega) hn, vq (j := 3) (by omega) hn, cs_get (d := 17) hw σ _ hC (fun s1 hC1 ag1 => ⟨_, rfl, vq (j := 1) (by omega) hn, vq (j := 2) (by omega) hn, vq (j := 3) (by omega) hn, ms_get (d := 17) hw s1 _ (hM.ag ag1) (fun s2 hM2 ag2 => ⟨_, rfl, fun _ => ?_, fun q => absurd rfl q⟩)⟩)⟩
  rw [e6]
  exact N _ s2 (wf_get hw) (hC1.ag ag2) hM2
theorem lc_copy {n i : Nat} {xs : Nat → Int32} {A σ : ST} (hi : i + 5 < n) (hn : n ≤ 3072) (hw : Wf A) (hC : RepC A σ) (hM : RepM A σ) (N : Nxt n xs i) : Ev (some (n, xs)) (12 + 8) m_L_law 1172 [some (vR 63 0), some (vR 0 0), some (vR 11 0), some (vI (nI i))] [] σ lawPost := by
  have e6 : nI i + 6 = nI (i + 6) := nI_add i 6
  refine sg_L_law_1172 (d := 12) ⟨vq (j := 1) (by omega) hn, vq (j := 2) (by omega) hn, vq (j := 3) (by omega) hn, vq (j := 4) (by omega) hn, vq (j := 5) (by omega) hn, cs_copy (d := 17) hw σ _ hC (fun s1 hC1 ag1 => ⟨_, rfl, vq (j := 1) (by omega) hn, vq (j := 2) (by omega) hn, vq (j := 3) (by omega) hn, vq (j := 4) (by omega) hn, vq (j := 5) (by omega) hn, ms_copy (d := 17) hw s1 _ (hM.ag ag1) (fun s2 hM2 ag2 => ⟨_, rfl, fun _ => ?_, fun q => absurd rfl q⟩)⟩)⟩
  rw [e6]
  exact N _ s2 (wf_copy hw) (hC1.ag ag2) hM2
theorem lc_write {n i : Nat} {xs : Nat → Int32} {A σ : ST} (hi : i + 5 < n) (hn : n ≤ 3072) (hw : Wf A) (hC : RepC A σ) (hM : RepM A σ) (N : Nxt n xs i) : Ev (some (n, xs)) (12 + 8) m_L_law 1235 [some (vR 63 0), some (vR 0 0), some (vR 11 0), some (vI (nI i))] [] σ lawPost := by
  have e6 : nI i + 6 = nI (i + 6) := nI_add i 6
  refine sg_L_law_1235 (d := 12) ⟨vq (j := 1) (by omega) hn, vq (j := 2) (by omega) hn, cs_write (d := 16) hw σ _ hC (fun s1 hC1 ag1 => ⟨_, rfl, vq (j := 1) (by omega) hn, vq (j := 2) (by omega) hn, ms_write (d := 16) hw s1 _ (hM.ag ag1) (fun s2 hM2 ag2 => ⟨_, rfl, fun _ => ?_, fun q => absurd rfl q⟩)⟩)⟩
  rw [e6]
  exact N _ s2 (wf_write hw) (hC1.ag ag2) hM2
theorem lc_count {n i : Nat} {xs : Nat → Int32} {A σ : ST} (hi : i + 5 < n) (hn : n ≤ 3072) (hw : Wf A) (hC : RepC A σ) (hM : RepM A σ) (N : Nxt n xs i) : Ev (some (n, xs)) (12 + 8) m_L_law 1268 [some (vR 63 0), some (vR 0 0), some (vR 11 0), some (vI (nI i))] [] σ lawPost := by
  have e6 : nI i + 6 = nI (i + 6) := nI_add i 6
  refine sg_L_law_1268 (d := 12) ⟨vq (j := 1) (by omega) hn, cs_count (d := 16) hw σ _ hC (fun s1 hC1 ag1 => ⟨_, rfl, vq (j := 1) (by omega) hn, ms_count (d := 16) hw s1 _ (hM.ag ag1) (fun s2 hM2 ag2 => ⟨_, rfl, fun _ => ?_, fun q => absurd rfl q⟩)⟩)⟩
  rw [e6]
  exact N _ s2 hw (hC1.ag ag2) hM2
theorem lc_dig {n i : Nat} {xs : Nat → Int32} {A σ : ST} (hi : i + 5 < n) (hn : n ≤ 3072) (hw : Wf A) (hC : RepC A σ) (hM : RepM A σ) (N : Nxt n xs i) : Ev (some (n, xs)) (12 + 8) m_L_law 1291 [some (vR 63 0), some (vR 0 0), some (vR 11 0), some (vI (nI i))] [] σ lawPost := by
  have e6 : nI i + 6 = nI (i + 6) := nI_add i 6
  refine sg_L_law_1291 (d := 12) (cs_dig (d := 7) hw σ _ hC (fun s1 hC1 ag1 => ⟨_, rfl, ms_dig (d := 13) hw s1 _ (hM.ag ag1) (fun s2 hM2 ag2 => ⟨_, rfl, fun _ => ?_, fun q => absurd rfl q⟩)⟩))
  rw [e6]
  exact N _ s2 hw (hC1.ag ag2) hM2
theorem all31 : ∀ j, j < 32 → (nI j = 0 ∨ nI j = 1 ∨ nI j = 2 ∨ nI j = 3 ∨ nI j = 4 ∨ nI j = 5 ∨ nI j = 6 ∨ nI j = 7 ∨ nI j = 8 ∨ nI j = 9 ∨ nI j = 10 ∨ nI j = 11 ∨ nI j = 12 ∨ nI j = 13 ∨ nI j = 14 ∨ nI j = 15 ∨ nI j = 16 ∨ nI j = 17 ∨ nI j = 18 ∨ nI j = 19 ∨ nI j = 20 ∨ nI j = 21 ∨ nI j = 22 ∨ nI j = 23 ∨ nI j = 24 ∨ nI j = 25 ∨ nI j = 26 ∨ nI j = 27 ∨ nI j = 28 ∨ nI j = 29 ∨ nI j = 30 ∨ nI j = 31) := by decide +kernel
theorem law_loop {n : Nat} {xs : Nat → Int32} (hn : n ≤ 3072) : ∀ (f i : Nat) (A σ : ST), n ≤ i + f → i ≤ 3100 → Wf A → RepC A σ → RepM A σ → Ev (some (n, xs)) (12 + 8) m_L_law 18 [some (vR 63 0), some (vR 0 0), some (vR 11 0), some (vI (nI i))] [] σ lawPost := by
  intro f
  induction f with
  | zero =>
    intro i A σ hf hi hw hC hM
    refine sg_L_law_18 (d := 12) ⟨fun _ => rfl, fun q => absurd ?_ q⟩
    show nI n - 6 < nI i
    have e : (6 : Int32).toInt = 6 := rfl
    rw [lt_toInt, sub_toInt (by rw [nI_toInt (by omega), e]; omega) (by rw [nI_toInt (by omega), e]; omega), nI_toInt (by omega), nI_toInt (by omega), e]
    omega
  | succ f ih =>
    intro i A σ hf hi hw hC hM
    have e : (6 : Int32).toInt = 6 := rfl
    have hlt : (nI n - 6 < nI i) ↔ n < i + 6 := by
      rw [lt_toInt, sub_toInt (by rw [nI_toInt (by omega), e]; omega) (by rw [nI_toInt (by omega), e]; omega), nI_toInt (by omega), nI_toInt (by omega), e]
      omega
    refine sg_L_law_18 (d := 12) ⟨fun _ => rfl, fun q => ?_⟩
    have hge : ¬ n < i + 6 := fun z => q (hlt.mpr z)
    have h5 : i + 5 < n := by omega
    have N : Nxt n xs i := fun A' σ' hw' hC' hM' => ih (i + 6) A' σ' (by omega) (by omega) hw' hC' hM'
    obtain ⟨j, hj, ej⟩ := pk_andE (xs ((nI i).toNatClampNeg)) (m := 31) 5 (by decide)
    refine ⟨vpin (by omega) (by omega), ?_⟩
    rw [ej]
    exact ⟨fun _ => lc_type h5 hn hw hC hM N, fun q0 => ⟨fun _ => lc_wipe h5 hn hw hC hM N, fun q1 => ⟨fun _ => lc_fault h5 hn hw hC hM N, fun q2 => ⟨fun _ => lc_chap h5 hn hw hC hM N, fun q3 => ⟨fun _ => lc_pace h5 hn hw hC hM N, fun q4 => ⟨fun _ => lc_read h5 hn hw hC hM N, fun q5 => ⟨fun _ => lc_like h5 hn hw hC hM N, fun q6 => ⟨fun _ => lc_skip h5 hn hw hC hM N, fun q7 => ⟨fun _ => lc_reader h5 hn hw hC hM N, fun q8 => ⟨fun _ => lc_set h5 hn hw hC hM N, fun q9 => ⟨fun _ => lc_time h5 hn hw hC hM N, fun q10 => ⟨fun _ => lc_even h5 hn hw hC hM N, fun q11 => ⟨fun _ => lc_wait h5 hn hw hC hM N, fun q12 => ⟨fun _ => lc_best h5 hn hw hC hM N, fun q13 => ⟨fun _ => lc_how h5 hn hw hC hM N, fun q14 => ⟨fun _ => lc_gain h5 hn hw hC hM N, fun q15 => ⟨fun _ => lc_rest h5 hn hw hC hM N, fun q16 => ⟨fun _ => lc_prs h5 hn hw hC hM N, fun q17 => ⟨fun _ => lc_turn h5 hn hw hC hM N, fun q18 => ⟨fun _ => lc_forget h5 hn hw hC hM N, fun q19 => ⟨fun _ => lc_paces h5 hn hw hC hM N, fun q20 => ⟨fun _ => lc_unl h5 hn hw hC hM N, fun q21 => ⟨fun _ => lc_done h5 hn hw hC hM N, fun q22 => ⟨fun _ => lc_mean h5 hn hw hC hM N, fun q23 => ⟨fun _ => lc_sheet h5 hn hw hC hM N, fun q24 => ⟨fun _ => lc_lose h5 hn hw hC hM N, fun q25 => ⟨fun _ => lc_lay h5 hn hw hC hM N, fun q26 => ⟨fun _ => lc_get h5 hn hw hC hM N, fun q27 => ⟨fun _ => lc_copy h5 hn hw hC hM N, fun q28 => ⟨fun _ => lc_write h5 hn hw hC hM N, fun q29 => ⟨fun _ => lc_count h5 hn hw hC hM N, fun q30 => ⟨fun _ => lc_dig h5 hn hw hC hM N, fun q31 => ((all31 j hj).elim q0 (fun z => z.elim q1 (fun z => z.elim q2 (fun z => z.elim q3 (fun z => z.elim q4 (fun z => z.elim q5 (fun z => z.elim q6 (fun z => z.elim q7 (fun z => z.elim q8 (fun z => z.elim q9 (fun z => z.elim q10 (fun z => z.elim q11 (fun z => z.elim q12 (fun z => z.elim q13 (fun z => z.elim q14 (fun z => z.elim q15 (fun z => z.elim q16 (fun z => z.elim q17 (fun z => z.elim q18 (fun z => z.elim q19 (fun z => z.elim q20 (fun z => z.elim q21 (fun z => z.elim q22 (fun z => z.elim q23 (fun z => z.elim q24 (fun z => z.elim q25 (fun z => z.elim q26 (fun z => z.elim q27 (fun z => z.elim q28 (fun z => z.elim q29 (fun z => z.elim q30 (fun z => q31 z))))))))))))))))))))))))))))))))⟩⟩⟩⟩⟩⟩⟩⟩⟩⟩⟩⟩⟩⟩⟩⟩⟩⟩⟩⟩⟩⟩⟩⟩⟩⟩⟩⟩⟩⟩⟩⟩
def A0 : ST := (fun k i f => if k = 2 then 3 else if k = 5 then (if f = 1 then 1 else 0) else if k = 6 then (if f = 0 then 120 else if f = 1 then 60 else 0) else if k = 9 then (if f = 0 then 1 else 0) else 0, fun _ _ _ => 0)
theorem A0_sN : sN A0 = 0 := rfl
theorem A0_flt : flt (A0.1 1 0) (sN A0) = -1 := rfl
theorem A0_nC : nC A0 = 0 := rfl
theorem A0_wf : Wf A0 := by
  refine ⟨⟨rfl, by rw [A0_sN]; omega⟩, fun r k _ _ => ?_, fun r c _ _ => Or.inl rfl, fun c _ => Or.inl rfl, fun r _ => ?_, ?_, ⟨⟨rfl, ?_⟩, fun k _ => ?_⟩, fun s _ => ?_⟩
  · show rg (3 : Int32) 1 9
    decide
  · show rg (0 : Int32) 0 99 ∧ rg (1 : Int32) 0 9 ∧ rg (0 : Int32) 0 4
    decide
  · show rg (120 : Int32) 0 999 ∧ rg (60 : Int32) 0 999
    decide
  · show (0 : Int32).toNatClampNeg ≤ 8
    decide
  · show rg (0 : Int32) 0 7 ∧ rg (0 : Int32) 0 63 ∧ rg (0 : Int32) 0 999
    decide
  · refine ⟨Or.inr rfl, ?_⟩
    show rg (0 : Int32) 0 2 ∧ rg (0 : Int32) 0 60
    decide
theorem lt3 {k : Nat} (h : k < 3) : k = 0 ∨ k = 1 ∨ k = 2 := by omega
theorem lt6 {k : Nat} (h : k < 6) : k = 0 ∨ k = 1 ∨ k = 2 ∨ k = 3 ∨ k = 4 ∨ k = 5 := by omega
theorem lt4 {k : Nat} (h : k < 4) : k = 0 ∨ k = 1 ∨ k = 2 ∨ k = 3 := by omega
theorem A0_lost (s : Nat) : ¬ A0.1 9 s 0 = 0 := by
  show ¬ (1 : Int32) = 0
  decide
theorem A0_c : RepC A0 st0 := by
  refine ⟨⟨⟨rfl, rfl⟩, rfl, rfl, fun c hc => absurd hc (by rw [A0_nC]; omega)⟩, fun r k hr hk => ?_, fun r c _ _ => rfl, fun c _ => rfl, fun r t hr ht => ?_, ⟨rfl, rfl, rfl⟩, ⟨rfl, fun k _ => ⟨rfl, rfl, rfl⟩⟩, fun s hs => ⟨rfl, fun q => absurd q (A0_lost s)⟩⟩
  · rcases lt3 hk with rfl | rfl | rfl <;> rfl
  · rcases lt3 ht with rfl | rfl | rfl <;> rfl
theorem bt0 : bt8 (fun _ => 0) 8 = 0 := rfl
theorem A0_m : RepM A0 st0 := by
  refine ⟨⟨rfl, rfl⟩, fun r k hr hk => ?_, fun r _ => rfl, rfl, fun r hr => ?_, ⟨rfl, rfl, rfl⟩, ⟨rfl, fun k t _ _ => rfl⟩, fun s hs => ⟨?_, fun q => absurd q (A0_lost s)⟩⟩
  · rcases lt6 hr with rfl | rfl | rfl | rfl | rfl | rfl <;> rcases lt3 hk with rfl | rfl | rfl <;> rfl
  · rcases lt6 hr with rfl | rfl | rfl | rfl | rfl | rfl <;> exact ⟨rfl, rfl, rfl⟩
  · rw [if_neg (A0_lost s)]
    rcases lt4 hs with rfl | rfl | rfl | rfl <;> rfl
theorem law_ev {L : Nat} {xs : Nat → Int32} (hL : L ≤ 3072) : Ev (some (L, xs)) 20 m_L_law 16 [some (vR 63 0), some (vR 0 0), some (vR 11 0), none] [] st0 lawPost := by
  refine sg_L_law_16 (d := 12) ?_
  exact law_loop hL L 0 A0 st0 (by omega) (by omega) A0_wf A0_c A0_m
