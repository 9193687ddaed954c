-- moods: the reference
theorem sub_i : ∀ s, s < 64 → ∀ x, x < 64 → decide ((nI x &&& (nI s ^^^ (-1))) = 0) = decide (subb s.testBit 6 x) := by decide +kernel
theorem sub_iff {s x : Nat} (hs : s < 64) (hx : x < 64) : ((nI x &&& (nI s ^^^ (-1))) = 0) ↔ subb s.testBit 6 x := by
  have := sub_i s hs x hx
  exact decide_eq_decide.mp this
theorem m_qrt {A σ : ST} {d s x : Nat} (hw : Wf A) (h : RepM A σ) (hs : s < 64) (hx : x < 64) {post : Option AV → ST → Prop} (K : post (some (vJ (lN (sm s.testBit (qd A) 6 x)))) σ) : Ev none (d + 1) m_M_quarters 0 [some (vR 11 0), some (vI (nI s)), some (vI (nI x)), none, none, none] [] σ post := by
  refine sg_M_quarters_0 ?_
  refine upto (n := 6) (P := fun r => Ev none (d + 1) m_M_quarters 5 [some (vR 11 0), some (vI (nI s)), some (vI (nI x)), some (vJ (lN (sm s.testBit (qd A) r x))), none, some (vI (nI r))] [] σ post) ?_ ?_
  · exact sg_M_quarters_5 ⟨fun _ => K, fun q => absurd (Int32.le_refl _) q⟩
  · intro r hr ih
    have hv := vpin hr (by decide)
    obtain ⟨q1, q2⟩ := qd_ix hw hr
    refine sg_M_quarters_5 ⟨fun q => absurd ((nI_leI (a := 6) (by decide) (by omega)).mp q) (by omega), fun _ => ⟨⟨fun _ => ⟨fun _ => hv, fun _ => hv⟩, fun _ => trivial⟩, fun z hz => ?_⟩⟩
    have b1 : fp_M_isIn σ (nI s) (nI r) ↔ s.testBit r = true := hldT hs hr
    have b2 : fp_M_isIn σ (nI x) (nI r) ↔ x.testBit r = true := hldT hx hr
    have e : z = lN (if s.testBit r = true then (if x.testBit r = true then qd A r else 4 - qd A r) else 1) := by
      rw [hz, nI_ix (by omega), (h.2.2.2.2.1 r hr).2.2, q1]
      by_cases g1 : s.testBit r = true
      · rw [if_pos (b1.mpr g1), if_pos g1]
        by_cases g2 : x.testBit r = true
        · rw [if_pos (b2.mpr g2), if_pos g2, nI_l (by omega)]
        · rw [if_neg (fun w => g2 (b2.mp w)), if_neg g2, show (4 : Int32) = nI 4 from rfl, pk_sub q2, nI_l (by omega)]
      · rw [if_neg (fun w => g1 (b1.mp w)), if_neg g1]
        rfl
    rw [e, lN_mul, nI_1, ← sm_s]
    exact ih
theorem m_so {A σ : ST} {d s x c : Nat} (hw : Wf A) (h : RepM A σ) (hp : Psd A σ) (hs : s < 64) (hx : x < 64) (hc : c < nC A) {post : Option AV → ST → Prop} (K : post (some (vI (nI (lm s.testBit (tmn A c) 6 x)))) σ) : Ev none (d + 3) m_M_togetherSo 0 [some (vR 11 0), some (vI (nI s)), some (vI (nI x)), some (vI (nI c)), none, none, none] [] σ post := by
  refine sg_M_togetherSo_0 ?_
  refine upto (n := 6) (P := fun r => Ev none (d + 3) m_M_togetherSo 6 [some (vR 11 0), some (vI (nI s)), some (vI (nI x)), some (vI (nI c)), some (vI (nI (lm s.testBit (tmn A c) r x))), some (vI (nI r)), none] [] σ post) ?_ ?_
  · exact sg_M_togetherSo_6 ⟨fun _ => K, fun q => absurd (Int32.le_refl _) q⟩
  · intro r hr ih
    obtain ⟨t1, t2⟩ := m_tm hw h hp hr hc
    obtain ⟨u1, u2⟩ := tmn_ix hw hr hc
    have hl := lm_le (b := s.testBit) (t := tmn A c) (B := 396) (x := x) r (fun i hi => by have := (tmn_ix hw (show i < 6 by omega) hc).2; omega)
    refine sg_M_togetherSo_6 ⟨fun q => absurd ((nI_leI (a := 6) (by decide) (by omega)).mp q) (by omega), fun _ => ⟨⟨fun _ => ⟨fun _ => t2, fun _ => t2⟩, fun _ => trivial⟩, fun z hz z5 hz5 => ?_⟩⟩
    have b1 : fp_M_isIn σ (nI s) (nI r) ↔ s.testBit r = true := hldT hs hr
    have b2 : fp_M_isIn σ (nI x) (nI r) ↔ x.testBit r = true := hldT hx hr
    have e : z = nI (if s.testBit r = true then (if x.testBit r = true then 2 * tmn A c r else tmn A c r) else 0) := by
      rw [hz, t1, u1]
      by_cases g1 : s.testBit r = true
      · rw [if_pos (b1.mpr g1), if_pos g1]
        by_cases g2 : x.testBit r = true
        · rw [if_pos (b2.mpr g2), if_pos g2, show (2 : Int32) = nI 2 from rfl, pk_mul]
        · rw [if_neg (fun w => g2 (b2.mp w)), if_neg g2]
      · rw [if_neg (fun w => g1 (b1.mp w)), if_neg g1]
        rfl
    have hle : (if s.testBit r = true then (if x.testBit r = true then 2 * tmn A c r else tmn A c r) else 0) ≤ 396 := by
      split
      · split <;> omega
      · omega
    have e5 : z5 = nI (lm s.testBit (tmn A c) (r + 1) x) := by
      rw [hz5, e, lm_s]
      generalize (if s.testBit r = true then (if x.testBit r = true then 2 * tmn A c r else tmn A c r) else 0) = y at *
      generalize lm s.testBit (tmn A c) r x = l at *
      by_cases g : y ≤ l
      · rw [if_pos ((nI_leI (by omega) (by omega)).mpr g), show max l y = l by omega]
      · rw [if_neg (fun w => g ((nI_leI (by omega) (by omega)).mp w)), show max l y = y by omega]
    rw [e5, nI_1]
    exact ih
def sX (A : ST) (s c : Nat) (w : Nat → Nat) (u x : Nat) : Nat := sumN (fun y => if subb s.testBit 6 y then sm s.testBit (qd A) 6 y * gW w u (lm s.testBit (tmn A c) 6 y) else 0) x
theorem sX_s {A : ST} {s c : Nat} {w : Nat → Nat} {u x : Nat} : sX A s c w u (x + 1) = sX A s c w u x + (if subb s.testBit 6 x then sm s.testBit (qd A) 6 x * gW w u (lm s.testBit (tmn A c) 6 x) else 0) := rfl
theorem sX_end {A : ST} {s c : Nat} {w : Nat → Nat} {u : Nat} : sX A s c w u 64 = EE A s c (gW w u) := SU (b := s.testBit) (t := tmn A c) (q := qd A) 6 (fun l p => p * gW w u l)
theorem m_one {A σ : ST} {d s c x l q : Nat} {w : Nat → Nat} (hx : x < 64) (hl : l ≤ 396) (hq : q < 2 ^ 31) (B : Nat → Nat) (hW : ∀ t, t < 3200 → σ.2 61 0 t = lN (w t)) (hB : ∀ u, u < 3200 → σ.2 62 0 u = lN (B u)) {post : Option AV → ST → Prop} (K : ∀ σ', OffM [61, 62] [] σ σ' → σ'.2 11 0 33 = σ.2 11 0 33 → (∀ t, t < 3200 → σ'.2 61 0 t = lN (w t)) → (∀ u, u < 3200 → σ'.2 62 0 u = lN (B u + q * gW w u l)) → Ev none (d + 4) m_M_findMinutes 77 [some (vR 11 0), some (vI (nI s)), some (vI (nI c)), some (vI (nI (x + 1))), none, none, none, none] [] σ' post) : Ev none (d + 4) m_M_findMinutes 115 [some (vR 11 0), some (vI (nI s)), some (vI (nI c)), some (vI (nI x)), some (vJ (lN q)), none, some (vI (nI l)), some (vI 0)] [] σ post := by
  by_cases h0 : q = 0
  · subst h0
    refine sg_M_findMinutes_115 ⟨fun _ => ?_, fun w => absurd (Or.inr (show lN 0 ≤ (0 : Int64) by decide)) w⟩
    rw [nI_1]
    refine K σ OffM.rf rfl hW (fun u hu => ?_)
    rw [Nat.zero_mul, Nat.add_zero]
    exact hB u hu
  · have hpos : ¬ lN q ≤ (0 : Int64) := fun w => by
      have := (pk_lLE (a := q) (b := 0) (by omega) (by decide)).mp w
      omega
    refine upto (n := 3200 - l) (P := fun t => ∀ σt, OffM [61, 62] [] σ σt → σt.2 11 0 33 = σ.2 11 0 33 → (∀ t, t < 3200 → σt.2 61 0 t = lN (w t)) → (∀ u, u < 3200 → σt.2 62 0 u = lN (B u + (if l ≤ u ∧ u - l < t then q * w (u - l) else 0))) → Ev none (d + 4) m_M_findMinutes 115 [some (vR 11 0), some (vI (nI s)), some (vI (nI c)), some (vI (nI x)), some (vJ (lN q)), none, some (vI (nI l)), some (vI (nI t))] [] σt post) ?_ ?_ σ OffM.rf rfl hW (fun u hu => by rw [if_neg (by omega), Nat.add_zero]; exact hB u hu)
    · intro σt ho e33 hWt hBt
      refine sg_M_findMinutes_115 ⟨fun _ => ?_, fun w => absurd (Or.inl (by rw [nI_add]; exact (nI_leI (a := 3200) (by decide) (by omega)).mpr (by omega))) w⟩
      rw [nI_1]
      refine K σt ho e33 hWt (fun u hu => ?_)
      rw [hBt u hu]
      by_cases g : l ≤ u
      · rw [if_pos ⟨g, by omega⟩, show gW w u l = w (u - l) from if_pos g]
      · rw [if_neg (fun z => g z.1), show gW w u l = 0 from if_neg g, Nat.mul_zero]
    · intro t ht ih σt ho e33 hWt hBt
      refine sg_M_findMinutes_115 ⟨fun w => ?_, fun _ => ?_⟩
      · exfalso
        rcases w with w | w
        · rw [nI_add] at w
          exact absurd ((nI_leI (a := 3200) (by decide) (by omega)).mp w) (by omega)
        · exact hpos w
      · rw [nI_add, nI_ix (show t + l < 2 ^ 31 by omega), nI_ix (show t < 2 ^ 31 by omega), hWt t (by omega), hBt (t + l) (by omega), lN_mul, lN_add, nI_1, if_neg (by omega), Nat.add_zero]
        refine ⟨vpin (by omega) (by decide), vpin (by omega) (by decide), vpin (by omega) (by decide), ih _ (OffM.sJ ho (Or.inl (by decide))) ?_ (fun t' ht' => ?_) (fun u hu => ?_)⟩
        · rw [setJ_ne _ _ _ _ _ (fun q => absurd q.1 (by decide))]; exact e33
        · rw [setJ_ne _ _ _ _ _ (fun q => absurd q.1 (by decide))]; exact hWt t' ht'
        · rw [setJ_if]
          by_cases e : u = t + l
          · subst e
            rw [if_pos rfl, if_pos ⟨by omega, by omega⟩, show t + l - l = t by omega, Nat.mul_comm, Nat.add_zero]
          · rw [if_neg e, hBt u hu]
            by_cases g : l ≤ u ∧ u - l < t
            · rw [if_pos g, if_pos ⟨g.1, by omega⟩]
            · rw [if_neg g, if_neg (fun z => g ⟨z.1, by omega⟩)]
theorem m_min {A σ : ST} {d s : Nat} (hw : Wf A) (h : RepM A σ) (hp : Psd A σ) (hs : s < 64) (hn : pcn s ≤ 3) {post : Option AV → ST → Prop} (K : ∀ σ', OffM [61, 62] [] σ σ' → (∀ t, t < 3200 → σ'.2 61 0 t = lN (wY A s (nC A) t)) → σ'.2 11 0 33 = lN (dnY A s) → post none σ') : Ev none (d + 4) m_M_findMinutes 0 [some (vR 11 0), some (vI (nI s)), none, none, none, none, none, none] [] σ post := by
  have h8 := nC_le hw
  refine sg_M_findMinutes_0 ?_
  refine upto (n := 3200) (P := fun i => ∀ σi, OffM [61, 62] [] σ σi → (∀ t, t < i → σi.2 61 0 t = lN (wY A s 0 t)) → Ev none (d + 4) m_M_findMinutes 2 [some (vR 11 0), some (vI (nI s)), some (vI (nI i)), none, none, none, none, none] [] σi post) ?_ ?_ σ OffM.rf (fun t ht => absurd ht (Nat.not_lt_zero _))
  · intro σi ho hz
    refine sg_M_findMinutes_2 ⟨fun _ => ?_, fun q => absurd (Int32.le_refl _) q⟩
    refine upto (n := nC A) (P := fun c => ∀ σc, OffM [61, 62] [] σ σc → (∀ t, t < 3200 → σc.2 61 0 t = lN (wY A s c t)) → σc.2 11 0 33 = lN (4 ^ (pcn s * rdc A c)) → Ev none (d + 4) m_M_findMinutes 37 [some (vR 11 0), some (vI (nI s)), some (vI (nI c)), none, none, none, none, none] [] σc post) ?_ ?_ _ (OffM.sJ ho (Or.inr rfl)) (fun t ht => by rw [setJ_ne _ _ _ _ _ (fun q => absurd q.1 (by decide))]; exact hz t ht) (by rw [setJ_at, show rdc A 0 = 0 from rfl, Nat.mul_zero]; rfl)
    · intro σc hoc hWc e33
      exact sg_M_findMinutes_37 ⟨fun _ => K σc hoc hWc e33, fun q => absurd (by rw [(hp.off hoc).1]; exact Int32.le_refl _) q⟩
    · intro c hc ih σc hoc hWc e33
      have hR := h.off hoc
      have hP := hp.off hoc
      have hir := m_isRead hw hR hP hc
      refine sg_M_findMinutes_37 ⟨fun q => ?_, fun _ => ⟨fun q => ?_, fun q => ?_⟩⟩
      · rw [hP.1] at q
        exact absurd ((nI_leI (by omega) (by omega)).mp q) (by omega)
      · have h0 := hir.mp q
        refine upto (n := 3200) (P := fun i => ∀ σi, OffM [61, 62] [] σ σi → (∀ t, t < 3200 → σi.2 61 0 t = lN (wY A s c t)) → σi.2 11 0 33 = lN (4 ^ (pcn s * rdc A c)) → (∀ t, t < i → σi.2 62 0 t = lN 0) → Ev none (d + 4) m_M_findMinutes 55 [some (vR 11 0), some (vI (nI s)), some (vI (nI c)), some (vI (nI i)), none, none, none, none] [] σi post) ?_ ?_ σc hoc hWc e33 (fun t ht => absurd ht (Nat.not_lt_zero _))
        · intro σ0 ho0 hW0 f33 hz0
          refine sg_M_findMinutes_55 ⟨fun _ => ?_, fun q => absurd (Int32.le_refl _) q⟩
          refine upto (n := 64) (P := fun x => ∀ σx, OffM [61, 62] [] σ σx → (∀ t, t < 3200 → σx.2 61 0 t = lN (wY A s c t)) → σx.2 11 0 33 = lN (4 ^ (pcn s * rdc A c)) → (∀ u, u < 3200 → σx.2 62 0 u = lN (sX A s c (wY A s c) u x)) → Ev none (d + 4) m_M_findMinutes 77 [some (vR 11 0), some (vI (nI s)), some (vI (nI c)), some (vI (nI x)), none, none, none, none] [] σx post) ?_ ?_ σ0 ho0 hW0 f33 (fun u hu => hz0 u hu)
          · intro σx hox hWx g33 hBx
            refine sg_M_findMinutes_77 ⟨fun _ => ?_, fun q => absurd (Int32.le_refl _) q⟩
            refine upto (n := 3200) (P := fun i => ∀ σi, OffM [61, 62] [] σ σi → σi.2 11 0 33 = lN (4 ^ (pcn s * rdc A c)) → (∀ u, u < 3200 → σi.2 62 0 u = lN (sX A s c (wY A s c) u 64)) → (∀ t, t < i → σi.2 61 0 t = lN (sX A s c (wY A s c) t 64)) → Ev none (d + 4) m_M_findMinutes 170 [some (vR 11 0), some (vI (nI s)), some (vI (nI c)), some (vI (nI i)), none, none, none, none] [] σi post) ?_ ?_ σx hox g33 hBx (fun t ht => absurd ht (Nat.not_lt_zero _))
            · intro σi hoi k33 _ hCi
              refine sg_M_findMinutes_170 ⟨fun _ => m_ones (by omega) ⟨_, rfl, ?_⟩, fun q => absurd (Int32.le_refl _) q⟩
              rw [k33, show (2 : Int32) = nI 2 from rfl, pk_mul, lsl_n (pcn s) hn, lN_mul, ← Nat.pow_add, nI_1]
              have e : pcn s * rdc A c + pcn s = pcn s * rdc A (c + 1) := by rw [rdc_s, if_pos h0, Nat.mul_add, Nat.mul_one]
              rw [e]
              refine ih _ (OffM.sJ hoi (Or.inr rfl)) (fun t ht => ?_) (by rw [setJ_at])
              rw [setJ_ne _ _ _ _ _ (fun q => absurd q.1 (by decide)), hCi t ht, sX_end, wY_s, if_pos h0]
            · intro i hi ihi σi hoi k33 hBi hCi
              refine sg_M_findMinutes_170 ⟨fun q => absurd ((nI_leI (a := 3200) (by decide) (by omega)).mp q) (by omega), fun _ => ⟨vpin hi (by decide), vpin hi (by decide), ?_⟩⟩
              rw [nI_ix (by omega), nI_1, hBi i hi]
              refine ihi _ (OffM.sJ hoi (Or.inl (by decide))) ?_ (fun u hu => ?_) (fun t ht => ?_)
              · rw [setJ_ne _ _ _ _ _ (fun q => absurd q.1 (by decide))]; exact k33
              · rw [setJ_ne _ _ _ _ _ (fun q => absurd q.1 (by decide))]; exact hBi u hu
              · rw [setJ_if]
                by_cases e : t = i
                · rw [if_pos e, e]
                · rw [if_neg e]
                  exact hCi t (by omega)
          · intro x hx ihx σx hox hWx g33 hBx
            have hRx := h.off hox
            have hPx := hp.off hox
            have hl := lm_le (b := s.testBit) (t := tmn A c) (B := 396) (x := x) 6 (fun i hi => by have := (tmn_ix hw hi hc).2; omega)
            have hq := sm_le (b := s.testBit) (q := qd A) (x := x) 6 (fun i hi => (qd_ix hw hi).2)
            have hq6 : (4 : Nat) ^ 6 = 4096 := rfl
            refine sg_M_findMinutes_77 ⟨fun q => absurd ((nI_leI (a := 64) (by decide) (by omega)).mp q) (by omega), fun _ => ⟨fun g => ?_, fun g => ?_⟩⟩
            · have hsub := (sub_iff hs hx).mp g
              refine m_qrt (d := d + 2) hw hRx hs hx ⟨_, rfl, m_so hw hRx hPx hs hx hc ⟨_, rfl, ?_⟩⟩
              refine m_one (A := A) hx hl (by omega) (fun u => sX A s c (wY A s c) u x) hWx hBx (fun σ' ho' f33 hW' hB' => ihx σ' (OffM.tr hox ho') hW' (f33.trans g33) (fun u hu => ?_))
              rw [hB' u hu, sX_s, if_pos hsub]
            · have hsub : ¬ subb s.testBit 6 x := fun w => g ((sub_iff hs hx).mpr w)
              refine m_so hw hRx hPx hs hx hc ⟨_, rfl, ?_⟩
              show Ev none (d + 4) m_M_findMinutes 115 [_, _, _, _, some (vJ (lN 0)), _, _, _] [] σx post
              refine m_one (A := A) hx hl (by decide) (fun u => sX A s c (wY A s c) u x) hWx hBx (fun σ' ho' f33 hW' hB' => ihx σ' (OffM.tr hox ho') hW' (f33.trans g33) (fun u hu => ?_))
              rw [hB' u hu, sX_s, if_neg hsub, Nat.zero_mul]
        · intro i hi ihi σi hoi hWi f33 hzi
          refine sg_M_findMinutes_55 ⟨fun q => absurd ((nI_leI (a := 3200) (by decide) (by omega)).mp q) (by omega), fun _ => ⟨vpin hi (by decide), ?_⟩⟩
          rw [nI_ix (by omega), nI_1]
          refine ihi _ (OffM.sJ hoi (Or.inl (by decide))) (fun t ht => ?_) ?_ (fun t ht => ?_)
          · rw [setJ_ne _ _ _ _ _ (fun q => absurd q.1 (by decide))]; exact hWi t ht
          · rw [setJ_ne _ _ _ _ _ (fun q => absurd q.1 (by decide))]; exact f33
          · rw [setJ_if]
            by_cases e : t = i
            · rw [if_pos e]; rfl
            · rw [if_neg e]
              exact hzi t (by omega)
      · have h0 : ¬ A.1 4 0 c = 0 := fun w => q (hir.mpr w)
        rw [nI_1]
        have e : rdc A (c + 1) = rdc A c := by rw [rdc_s, if_neg h0]; rfl
        rw [e] at ih
        refine ih σc hoc (fun t ht => ?_) e33
        rw [hWc t ht, wY_s, if_neg h0]
  · intro i hi ih σi ho hz
    refine sg_M_findMinutes_2 ⟨fun q => absurd ((nI_leI (a := 3200) (by decide) (by omega)).mp q) (by omega), fun _ z hz3 => ⟨vpin hi (by decide), ?_⟩⟩
    rw [nI_ix (by omega), nI_1]
    refine ih _ (OffM.sJ ho (Or.inl (by decide))) (fun t ht => ?_)
    rw [setJ_if]
    by_cases e : t = i
    · rw [if_pos e, e, hz3]
      show _ = lN (if i = 0 then 1 else 0)
      by_cases e0 : i = 0
      · rw [if_pos e0, e0]; rfl
      · rw [if_neg e0, if_neg (nI_ne0 (by omega) (by omega))]; rfl
    · rw [if_neg e]
      exact hz t (by omega)
theorem dnX_m {A : ST} (hw : Wf A) {s m : Nat} : sumN (wY A s (nC A)) (min 3200 (m + 1)) = dnX A s m := by
  have h8 := nC_le hw
  unfold dnX
  by_cases h : m ≤ 3168
  · rw [show min 3200 (m + 1) = min m 3168 + 1 by omega]
  · rw [show min m 3168 + 1 = 3169 by omega]
    obtain ⟨k, hk⟩ : ∃ k, min 3200 (m + 1) = 3169 + k := ⟨min 3200 (m + 1) - 3169, by omega⟩
    rw [hk, sumN_split, sumN_0 (n := k) (fun x hx => wY_sup hw (nC A) (Nat.le_refl _) _ (by omega)), Nat.add_zero]
def dnv (A : ST) (s m : Nat) (a3 : Int32) : Int64 := if a3 = 0 then lN (dnX A s m / Nat.gcd (dnX A s m) (dnY A s)) else lN (dnY A s / Nat.gcd (dnX A s m) (dnY A s))
def mnv (A : ST) (s : Nat) (a2 : Int32) : Int64 := if a2 = 0 then lN (mnS A s (nC A) / Nat.gcd (mnS A s (nC A)) (4 ^ pcn s)) else lN (4 ^ pcn s / Nat.gcd (mnS A s (nC A)) (4 ^ pcn s))
theorem m_dnOf {A σ : ST} {d s m : Nat} {a3 : Int32} (hw : Wf A) (h : RepM A σ) (hp : Psd A σ) (hs : s < 64) (hn : pcn s ≤ 3) (hm : m ≤ 9999) {post : Option AV → ST → Prop} (K : ∀ σ', OffM [61, 62] [] σ σ' → post (some (vJ (dnv A s m a3))) σ') : Ev none (d + 5) m_M_doneOf 0 [some (vR 11 0), some (vI (nI s)), some (vI (nI m)), some (vI a3), none, none, none] [] σ post := by
  obtain ⟨dx, dy, d0⟩ := dn_ok hw m hs hn
  refine sg_M_doneOf_0 (m_min hw h hp hs hn (fun σ' ho hW e33 => ⟨rfl, ?_⟩))
  refine upto (n := min 3200 (m + 1)) (P := fun t => Ev none (d + 5) m_M_doneOf 11 [some (vR 11 0), none, some (vI (nI m)), some (vI a3), some (vJ (lN (sumN (wY A s (nC A)) t))), none, some (vI (nI t))] [] σ' post) ?_ ?_
  · refine sg_M_doneOf_11 ⟨fun _ => ?_, fun q => ?_⟩
    · rw [e33, dnX_m hw]
      exact m_part' dx dy d0 ⟨_, rfl, K σ' ho⟩
    · exfalso
      apply q
      rcases Nat.lt_or_ge m 3200 with g | g
      · exact Or.inr ((nI_ltI (by omega) (by omega)).mpr (by omega))
      · exact Or.inl ((nI_leI (a := 3200) (by decide) (by omega)).mpr (by omega))
  · intro t ht ih
    refine sg_M_doneOf_11 ⟨fun q => ?_, fun _ => ⟨vpin (by omega) (by decide), ?_⟩⟩
    · exfalso
      rcases q with q | q
      · exact absurd ((nI_leI (a := 3200) (by decide) (by omega)).mp q) (by omega)
      · exact absurd ((nI_ltI (by omega) (by omega)).mp q) (by omega)
    · rw [nI_ix (by omega), hW t (by omega), lN_add, nI_1]
      exact ih
theorem m_mnOf {A σ : ST} {d s : Nat} {a2 : Int32} (hw : Wf A) (h : RepM A σ) (hp : Psd A σ) (hs : s < 64) (hn : pcn s ≤ 3) {post : Option AV → ST → Prop} (K : post (some (vJ (mnv A s a2))) σ) : Ev none (d + 4) m_M_meanOf 0 [some (vR 11 0), some (vI (nI s)), some (vI a2), none, none, none, none] [] σ post := by
  have h8 := nC_le hw
  have hp4 := p43 hn
  have hp0 : 0 < 4 ^ pcn s := Nat.pow_pos (by decide)
  have hml := mnS_le hw hs hn (nC A) (Nat.le_refl _)
  refine sg_M_meanOf_0 ?_
  refine upto (n := nC A) (P := fun c => Ev none (d + 4) m_M_meanOf 5 [some (vR 11 0), some (vI (nI s)), some (vI a2), some (vJ (lN (mnS A s c))), none, some (vI (nI c)), none] [] σ post) ?_ ?_
  · refine sg_M_meanOf_5 ⟨fun _ => m_ones (by omega) ⟨_, rfl, ?_⟩, fun q => absurd (by rw [hp.1]; exact Int32.le_refl _) q⟩
    rw [show (2 : Int32) = nI 2 from rfl, pk_mul, lsl_n (pcn s) hn, Int64.one_mul]
    exact m_part' (by omega) (by omega) hp0 ⟨_, rfl, K⟩
  · intro c hc ih
    have hir := m_isRead hw h hp hc
    refine sg_M_meanOf_5 ⟨fun q => ?_, fun _ => ?_⟩
    · rw [hp.1] at q
      exact absurd ((nI_leI (by omega) (by omega)).mp q) (by omega)
    by_cases h0 : A.1 4 0 c = 0
    · have e0 : lN (mnS A s c) = lN (mnS A s c + sumN (fun y => if subb s.testBit 6 y then sm s.testBit (qd A) 6 y * lm s.testBit (tmn A c) 6 y else 0) 0) := rfl
      rw [e0]
      refine upto (n := 64) (P := fun x => Ev none (d + 4) m_M_meanOf 17 [some (vR 11 0), some (vI (nI s)), some (vI a2), some (vJ (lN (mnS A s c + sumN (fun y => if subb s.testBit 6 y then sm s.testBit (qd A) 6 y * lm s.testBit (tmn A c) 6 y else 0) x))), none, some (vI (nI c)), some (vI (nI x))] [] σ post) ?_ ?_
      · refine sg_M_meanOf_17 ⟨fun _ => ?_, fun q => absurd (Int32.le_refl _) q⟩
        have e1 : sumN (fun y => if subb s.testBit 6 y then sm s.testBit (qd A) 6 y * lm s.testBit (tmn A c) 6 y else 0) 64 = EE A s c (fun l => l) := SU (b := s.testBit) (t := tmn A c) (q := qd A) 6 (fun l p => p * l)
        have e2 : mnS A s c + EE A s c (fun l => l) = mnS A s (c + 1) := by rw [mnS_s, if_pos h0]
        rw [e1, e2, nI_1]
        exact ih
      · intro x hx ihx
        have hl := lm_le (b := s.testBit) (t := tmn A c) (B := 396) (x := x) 6 (fun i hi => by have := (tmn_ix hw hi hc).2; omega)
        rw [sumN_s, ← Nat.add_assoc] at ihx
        refine sg_M_meanOf_17 ⟨fun q => absurd ((nI_leI (a := 64) (by decide) (by omega)).mp q) (by omega), fun _ => ⟨fun _ => ⟨fun g => ?_, fun g => ?_⟩, fun q => absurd (hir.mpr h0) q⟩⟩
        · rw [if_pos ((sub_iff hs hx).mp g)] at ihx
          refine m_qrt (d := d + 2) hw h hs hx ⟨_, rfl, m_so hw h hp hs hx hc ⟨_, rfl, ?_⟩⟩
          rw [nI_l (by omega), lN_mul, lN_add, nI_1]
          exact ihx
        · rw [if_neg (fun w => g ((sub_iff hs hx).mpr w)), Nat.add_zero] at ihx
          rw [Int64.add_zero, nI_1]
          exact ihx
    · have e : mnS A s (c + 1) = mnS A s c := by rw [mnS_s, if_neg h0]; rfl
      rw [e] at ih
      refine sg_M_meanOf_17 ⟨fun q => absurd q (by decide), fun _ => ⟨fun q => absurd (hir.mp q) h0, fun _ => ?_⟩⟩
      rw [nI_1]
      exact ih
-- done, mean
abbrev g_done (a1 a2 a3 : Int32) : Prop := rg a1 1 63 ∧ rg a2 0 9999 ∧ rg a3 0 1
def nol (a : Int32) : Int64 := (-9223372036854775808 : Int64) - (Int32.toInt64 a)
def an_done (A : ST) (a1 a2 a3 : Int32) : Int64 := if g_done a1 a2 a3 then (if pcn a1.toNatClampNeg ≤ 3 then dnv A a1.toNatClampNeg a2.toNatClampNeg a3 else nol (-4)) else nol (-2)
theorem cs_done {A : ST} {a1 a2 a3 : Int32} {d : Nat} (hw : Wf A) : CS m_O_done [some (vR 0 0), some (vI a1), some (vI a2), some (vI a3)] (d + 5) A A (vJ (an_done A a1 a2 a3)) := by
  intro σ post h K
  unfold an_done at K
  by_cases hg : g_done a1 a2 a3
  · rw [if_pos hg] at K
    obtain ⟨g1, g2, g3⟩ := hg
    refine sg_O_done_0 ⟨fun _ => ⟨fun _ => ⟨fun _ => ?_, fun g => absurd ((wi 0 1).mpr g3) g⟩, fun g => absurd ((wi 0 9999).mpr g2) g⟩, fun g => absurd ((wi 1 63).mpr g1) g⟩
    obtain ⟨s, h0, hs, rfl⟩ := set_ix g1
    obtain ⟨m, hm, rfl⟩ := rg_nI (n := 9999) g2
    rw [nI_ix (by omega), nI_ix (by omega)] at K
    have hp6 := pcn_6 s hs
    have e3 : nI (pcn s) ≤ 3 ↔ pcn s ≤ 3 := nI_leI (b := 3) (by omega) (by decide)
    rw [c_bits s hs, e3]
    refine ⟨fun hn => ?_, fun hn => ?_⟩
    · rw [if_pos hn] at K
      refine c_done hw h hs hn hm (fun σ' ho e7 e8 => ⟨rfl, ?_⟩)
      have K' := K σ' (h.off ho) (AgM.off ho)
      unfold dnv at K'
      unfold fn_D_above fn_D_below
      rw [e7, e8]
      refine ⟨fun q => ?_, fun q => ?_⟩
      · rw [if_pos q] at K'; exact K'
      · rw [if_neg q] at K'; exact K'
    · rw [if_neg hn] at K
      exact K σ h (AgM.off (S := []) Off.rf)
  · rw [if_neg hg] at K
    have K' := K σ h (AgM.off (S := []) Off.rf)
    exact sg_O_done_0 ⟨fun g1 => ⟨fun g2 => ⟨fun g3 => absurd ⟨(wi 1 63).mp g1, (wi 0 9999).mp g2, (wi 0 1).mp g3⟩ hg, fun _ => K'⟩, fun _ => K'⟩, fun _ => K'⟩
theorem ms_done {A : ST} {a1 a2 a3 : Int32} {d : Nat} (hw : Wf A) : MSp m_M_done [some (vR 11 0), some (vI a1), some (vI a2), some (vI a3)] (d + 6) A A (vJ (an_done A a1 a2 a3)) := by
  intro σ post h K
  unfold an_done at K
  refine sg_M_done_0 (m_reads hw h (fun σ1 h1 h2 h3 => ⟨_, rfl, fun q => ?_, fun q => ?_⟩))
  · have g1 := (mi 1 63).mp q.1
    have g2 := (mi 0 9999).mp q.2.1
    have g3 := (mi 0 1).mp q.2.2
    rw [if_pos ⟨g1, g2, g3⟩] at K
    obtain ⟨s, h0, hs, rfl⟩ := set_ix g1
    obtain ⟨m, hm, rfl⟩ := rg_nI (n := 9999) g2
    rw [nI_ix (by omega), nI_ix (by omega)] at K
    have hp6 := pcn_6 s hs
    have e3 : nI (pcn s) ≤ 3 ↔ pcn s ≤ 3 := nI_leI (b := 3) (by omega) (by decide)
    refine m_ones (by omega) ⟨_, rfl, ?_⟩
    rw [e3]
    refine ⟨fun hn => ?_, fun hn => ?_⟩
    · rw [if_pos hn] at K
      exact m_dnOf hw h1 h2 hs hn hm (fun σ' ho => ⟨_, rfl, K σ' (h1.off ho) (AgC.tr (AgC.off h3) (AgC.off ho))⟩)
    · rw [if_neg hn] at K
      exact K σ1 h1 (AgC.off h3)
  · rw [if_neg] at K
    · exact K σ1 h1 (AgC.off h3)
    · rintro ⟨z1, z2, z3⟩
      exact q ⟨(mi 1 63).mpr z1, (mi 0 9999).mpr z2, (mi 0 1).mpr z3⟩
abbrev g_mean (a1 a2 : Int32) : Prop := rg a1 1 63 ∧ rg a2 0 1
def an_mean (A : ST) (a1 a2 : Int32) : Int64 := if g_mean a1 a2 then (if pcn a1.toNatClampNeg ≤ 3 then mnv A a1.toNatClampNeg a2 else nol (-4)) else nol (-2)
theorem cs_mean {A : ST} {a1 a2 : Int32} {d : Nat} (hw : Wf A) : CS m_O_mean [some (vR 0 0), some (vI a1), some (vI a2)] (d + 5) A A (vJ (an_mean A a1 a2)) := by
  intro σ post h K
  unfold an_mean at K
  by_cases hg : g_mean a1 a2
  · rw [if_pos hg] at K
    obtain ⟨g1, g3⟩ := hg
    refine sg_O_mean_0 ⟨fun _ => ⟨fun _ => ?_, fun g => absurd ((wi 0 1).mpr g3) g⟩, fun g => absurd ((wi 1 63).mpr g1) g⟩
    obtain ⟨s, h0, hs, rfl⟩ := set_ix g1
    rw [nI_ix (by omega)] at K
    have hp6 := pcn_6 s hs
    have e3 : nI (pcn s) ≤ 3 ↔ pcn s ≤ 3 := nI_leI (b := 3) (by omega) (by decide)
    rw [c_bits s hs, e3]
    refine ⟨fun hn => ?_, fun hn => ?_⟩
    · rw [if_pos hn] at K
      refine c_mean hw h hs hn (fun σ' ho e7 e8 => ⟨rfl, ?_⟩)
      have K' := K σ' (h.off ho) (AgM.off ho)
      unfold mnv at K'
      unfold fn_D_above fn_D_below
      rw [e7, e8]
      refine ⟨fun q => ?_, fun q => ?_⟩
      · rw [if_pos q] at K'; exact K'
      · rw [if_neg q] at K'; exact K'
    · rw [if_neg hn] at K
      exact K σ h (AgM.off (S := []) Off.rf)
  · rw [if_neg hg] at K
    have K' := K σ h (AgM.off (S := []) Off.rf)
    exact sg_O_mean_0 ⟨fun g1 => ⟨fun g3 => absurd ⟨(wi 1 63).mp g1, (wi 0 1).mp g3⟩ hg, fun _ => K'⟩, fun _ => K'⟩
theorem ms_mean {A : ST} {a1 a2 : Int32} {d : Nat} (hw : Wf A) : MSp m_M_mean [some (vR 11 0), some (vI a1), some (vI a2)] (d + 5) A A (vJ (an_mean A a1 a2)) := by
  intro σ post h K
  unfold an_mean at K
  refine sg_M_mean_0 (m_reads hw h (fun σ1 h1 h2 h3 => ⟨_, rfl, fun q => ?_, fun q => ?_⟩))
  · have g1 := (mi 1 63).mp q.1
    have g3 := (mi 0 1).mp q.2
    rw [if_pos ⟨g1, g3⟩] at K
    obtain ⟨s, h0, hs, rfl⟩ := set_ix g1
    rw [nI_ix (by omega)] at K
    have hp6 := pcn_6 s hs
    have e3 : nI (pcn s) ≤ 3 ↔ pcn s ≤ 3 := nI_leI (b := 3) (by omega) (by decide)
    refine m_ones (by omega) ⟨_, rfl, ?_⟩
    rw [e3]
    refine ⟨fun hn => ?_, fun hn => ?_⟩
    · rw [if_pos hn] at K
      exact m_mnOf hw h1 h2 hs hn ⟨_, rfl, K σ1 h1 (AgC.off h3)⟩
    · rw [if_neg hn] at K
      exact K σ1 h1 (AgC.off h3)
  · rw [if_neg] at K
    · exact K σ1 h1 (AgC.off h3)
    · rintro ⟨z1, z3⟩
      exact q ⟨(mi 1 63).mpr z1, (mi 0 1).mpr z3⟩
