-- evenings
theorem AgM.tr {σ σ1 σ2 : ST} (h1 : AgM σ σ1) (h2 : AgM σ1 σ2) : AgM σ σ2 := fun k hk => ⟨(h2 k hk).1.trans (h1 k hk).1, (h2 k hk).2.trans (h1 k hk).2⟩
theorem AgC.tr {σ σ1 σ2 : ST} (h1 : AgC σ σ1) (h2 : AgC σ1 σ2) : AgC σ σ2 := fun k hk => ⟨(h2 k hk).1.trans (h1 k hk).1, (h2 k hk).2.trans (h1 k hk).2⟩
abbrev hld (a : Int32) (r : Nat) : Prop := ((isr a (nI r)) &&& (1 : Int32)) = 1
theorem div_rng : ∀ w, w < 10 → ∀ l, l < 100 → 1 ≤ w → 1 ≤ l → 1 ≤ (l + w - 1) / w ∧ (l + w - 1) / w ≤ 99 := by decide +kernel
theorem tmBy_ix {A : ST} (hw : Wf A) {r c : Nat} {v : Int32} (hc : c < nC A) (hv : rg v 1 9) : ∃ t : Nat, 1 ≤ t ∧ t ≤ 198 ∧ tmBy A r c v = nI t := by
  obtain ⟨l, h1, h2, el⟩ := lC_ix hw hc
  obtain ⟨w, hw1, rfl⟩ := rg_nI (n := 9) (a := v) ⟨by have := hv.1; omega, hv.2⟩
  have hw2 : 1 ≤ w := by
    have := hv.1
    rw [nI_toInt (by omega)] at this
    omega
  have e : (lC A c + nI w - 1) / nI w = nI ((l + w - 1) / w) := by
    rw [el, nI_add, nI_p1 (by omega), pk_div (by omega) (by omega) (by omega)]
  obtain ⟨p1, p2⟩ := div_rng w (by omega) l (by omega) hw2 h1
  unfold tmBy
  rw [e]
  split
  · exact ⟨2 * ((l + w - 1) / w), by omega, by omega, by rw [show (2 : Int32) = nI 2 from rfl, pk_mul]⟩
  · exact ⟨(l + w - 1) / w, by omega, by omega, rfl⟩
theorem pc_rg {A : ST} (hw : Wf A) {r c : Nat} (hr : r < 6) (hc : c < nC A) : rg (A.1 2 r (kC A c).toNatClampNeg) 1 9 := by
  obtain ⟨k, hk, ek⟩ := kC_ix hw hc
  rw [ek, nI_ix (by omega)]
  exact hw.2.1 r k hr hk
theorem tm_ix {A : ST} (hw : Wf A) {r c : Nat} (hr : r < 6) (hc : c < nC A) : ∃ t : Nat, 1 ≤ t ∧ t ≤ 198 ∧ tm A r c = nI t := tmBy_ix hw hc (pc_rg hw hr hc)
theorem Psd.off {A σ σ' : ST} {S F : List Nat} (h : Psd A σ) (ho : OffM S F σ σ') (hs : 47 ∉ S ∧ 48 ∉ S := by decide) (hf : 8 ∉ F := by decide) : Psd A σ' := h.of rfl rfl (ho.2 8 hf) (ho.1 47 hs.1 (by decide)).1 (ho.1 48 hs.2 (by decide)).1
def togK (A : ST) (a : Int32) (c : Nat) : Nat → Int32
  | 0 => 0
  | r + 1 => if hld a r then imax (togK A a c r) (tm A r c) else togK A a c r
abbrev tog (A : ST) (a : Int32) (c : Nat) : Int32 := togK A a c 6
theorem togK_s {A : ST} {a : Int32} {c r : Nat} : togK A a c (r + 1) = if hld a r then imax (togK A a c r) (tm A r c) else togK A a c r := rfl
theorem togK_ix {A : ST} (hw : Wf A) (a : Int32) {c : Nat} (hc : c < nC A) : ∀ r, r ≤ 6 → ∃ t : Nat, t ≤ 198 ∧ togK A a c r = nI t
  | 0, _ => ⟨0, by omega, rfl⟩
  | r + 1, hr => by
    obtain ⟨t, h1, h2⟩ := togK_ix hw a hc r (by omega)
    obtain ⟨u, h3, h4, h5⟩ := tm_ix hw (show r < 6 by omega) hc
    rw [togK_s]
    split
    · exact ⟨max t u, by omega, by rw [h2, h5, imax_nI (by omega) (by omega)]⟩
    · exact ⟨t, h1, h2⟩
theorem c_tog {A σ : ST} {d : Nat} {a : Int32} {c : Nat} (hw : Wf A) (h : RepC A σ) (hc : c < nC A) {post : Option AV → ST → Prop} (K : post (some (vI (tog A a c))) σ) : Ev none (d + 2) m_C_together 0 [some (vR 2 0), some (vI a), some (vI (nI c)), none, none, none] [] σ post := by
  have h8 := nC_le hw
  refine sg_C_together_0 ⟨vpin (by omega) (by decide), ?_⟩
  refine upto (n := 6) (P := fun r => Ev none (d + 2) m_C_together 15 [some (vR 2 0), some (vI a), some (vI (nI c)), some (vI (fn_B_kindOf σ (nI c))), some (vI (togK A a c r)), some (vI (nI r))] [] σ post) ?_ ?_
  · exact sg_C_together_15 ⟨fun _ => K, fun q => absurd (Int32.le_refl _) q⟩
  · intro r hr ih
    obtain ⟨e1, e2, e3, e4⟩ := c_spd hw h hr hc
    obtain ⟨b1, b2⟩ := c_by hw h hr hc (pc_rg hw hr hc)
    refine sg_C_together_15 ⟨fun q => absurd ((nI_leI (a := 6) (by decide) (by omega)).mp q) (by omega), fun _ => ?_⟩
    rw [nI_ix (by omega), e3, b1]
    refine ⟨⟨fun _ => ⟨vpin hr (by decide), e2, b2⟩, fun _ => trivial⟩, fun z hz => ?_⟩
    rw [hz, nI_1]
    exact ih
theorem m_tog {A σ : ST} {d : Nat} {a : Int32} {c : Nat} (hw : Wf A) (h : RepM A σ) (hp : Psd A σ) (hc : c < nC A) {post : Option AV → ST → Prop} (K : post (some (vI (tog A a c))) σ) : Ev none (d + 3) m_M_together 0 [some (vR 11 0), some (vI a), some (vI (nI c)), none, none, none] [] σ post := by
  have h8 := nC_le hw
  refine sg_M_together_0 ?_
  refine upto (n := 6) (P := fun r => Ev none (d + 3) m_M_together 5 [some (vR 11 0), some (vI a), some (vI (nI c)), some (vI (togK A a c r)), some (vI (nI r)), none] [] σ post) ?_ ?_
  · exact sg_M_together_5 ⟨fun _ => K, fun q => absurd (Int32.le_refl _) q⟩
  · intro r hr ih
    obtain ⟨e1, e2⟩ := m_tm hw h hp hr hc
    refine sg_M_together_5 ⟨fun q => absurd ((nI_leI (a := 6) (by decide) (by omega)).mp q) (by omega), fun _ => ⟨⟨fun _ => e2, fun _ => trivial⟩, fun z hz z4 hz4 => ?_⟩⟩
    have e : z4 = togK A a c (r + 1) := by
      rw [hz4, hz, e1, togK_s]
      by_cases hl : hld a r
      · rw [if_pos hl, if_pos hl]
        unfold imax
        by_cases q : togK A a c r < tm A r c
        · rw [if_pos q, if_neg (Int32.not_le.mpr q)]
        · rw [if_neg q, if_pos (Int32.not_lt.mp q)]
      · rw [if_neg hl, if_neg hl]
        obtain ⟨t, h1, h2⟩ := togK_ix hw a hc r (by omega)
        rw [h2, if_pos (nI_pos' (by omega))]
    rw [e, nI_1]
    exact ih
theorem c_skp {A σ : ST} (hw : Wf A) (h : RepC A σ) {c : Nat} (hc : c < 8) : fs_C_isSkipped σ (nI c) ∧ fn_C_isSkipped σ (nI c) = A.1 4 0 c := by
  unfold fs_C_isSkipped fn_C_isSkipped
  rw [nI_ix (by omega), h.2.2.2.1 c hc]
  exact ⟨⟨vpin hc (by decide), hw.2.2.2.1 c hc⟩, rfl⟩
theorem c_chs {A σ : ST} (h : RepC A σ) : fn_C_chapters σ = nI (nC A) := h.1.2.1
theorem m_isRead {A σ : ST} (hw : Wf A) (h : RepM A σ) (hp : Psd A σ) {c : Nat} (hc : c < nC A) : fp_M_isRead σ (nI c) ↔ A.1 4 0 c = 0 := by
  have h8 := nC_le hw
  have hs := hw.2.2.2.1 c (by omega)
  unfold fp_M_isRead fp_M_isIn
  rw [hp.1, h.2.2.2.1, bt8_get (by omega) hs]
  constructor
  · rintro ⟨_, q⟩
    rcases hs with hs | hs
    · exact hs
    · exact absurd hs q
  · intro q
    refine ⟨fun z => absurd ((nI_leI (by omega) (by omega)).mp z) (by omega), fun z => ?_⟩
    rw [q] at z
    exact absurd z (by decide)
def evS (A : ST) (a m : Int32) : Nat → Nat → Int32 → Int32 → (Nat → Int32) → Int32 × Int32 × Int32 × (Nat → Int32)
  | 0, _, k, t, w => (k, t, -1, w)
  | f + 1, c, k, t, w => if A.1 4 0 c = 0 then (if t + tog A a c ≤ m then evS A a m f (c + 1) (k + 1) (t + tog A a c) (fun r => w r + (tog A a c - tm A r c)) else (k, t, nI c, w)) else evS A a m f (c + 1) k t w
def ev0 (A : ST) (a : Int32) (c : Nat) : Int32 × Int32 × Int32 × (Nat → Int32) := evS A a (A.1 6 0 0) (nC A - c) c 0 0 (fun _ => 0)
def cEv (a : Int32) (x : Int32 × Int32 × Int32 × (Nat → Int32)) (σ : ST) : Prop := σ.1 4 0 2 = x.1 ∧ σ.1 4 0 3 = x.2.1 ∧ σ.1 4 0 4 = x.2.2.1 ∧ ∀ r, r < 6 → hld a r → σ.1 20 0 r = x.2.2.2 r
def mEv (a : Int32) (x : Int32 × Int32 × Int32 × (Nat → Int32)) (σ : ST) : Prop := σ.1 11 0 18 = x.1 ∧ σ.1 11 0 19 = x.2.1 ∧ σ.1 11 0 20 = x.2.2.1 ∧ ∀ r, r < 6 → hld a r → σ.1 55 0 r = x.2.2.2 r
theorem nI_nem1 {c : Nat} (hc : c < 2 ^ 31) : ¬ nI c = -1 := by
  intro q
  have := congrArg Int32.toInt q
  rw [nI_toInt hc] at this
  have e3 : (-1 : Int32).toInt = -1 := rfl
  omega
theorem c_stop {A : ST} {d : Nat} {a m : Int32} {post : Option AV → ST → Prop} {a4 : Int32} {σ : ST} (hn : ¬ σ.1 4 0 4 = -1) (K : post none σ) : Ev none (d + 4) m_E_sit 42 [some (vR 4 0), some (vI a), none, some (vI m), some (vI a4)] [] σ post :=
  sg_E_sit_42 ⟨fun _ => K, fun _ => ⟨fun q => absurd q hn, fun _ => K⟩⟩
theorem c_sit_loop {A : ST} {d : Nat} {a m : Int32} (hw : Wf A) {post : Option AV → ST → Prop} : ∀ (f c : Nat) (k t : Int32) (w : Nat → Int32) (σ : ST), c + f = nC A → RepC A σ → cEv a (k, t, -1, w) σ → (∀ σ', Off [4, 20] σ σ' → cEv a (evS A a m f c k t w) σ' → post none σ') → Ev none (d + 4) m_E_sit 42 [some (vR 4 0), some (vI a), none, some (vI m), some (vI (nI c))] [] σ post
  | 0, c, k, t, w, σ, hc, h, hE, K => by
    refine sg_E_sit_42 ⟨fun _ => K σ Off.rf hE, fun q => ?_⟩
    rw [c_chs h, show c = nC A by omega] at q
    exact absurd (Int32.le_refl _) q
  | f + 1, c, k, t, w, σ, hc, h, hE, K => by
    have h8 := nC_le hw
    obtain ⟨s1, s2⟩ := c_skp hw h (show c < 8 by omega)
    refine sg_E_sit_42 ⟨fun q => ?_, fun _ => ⟨fun _ => ⟨s1, ?_⟩, fun q => absurd hE.2.2.1 q⟩⟩
    · rw [c_chs h] at q
      exact absurd ((nI_leI (by omega) (by omega)).mp q) (by omega)
    rw [s2]
    refine ⟨fun q => ?_, fun q => ?_⟩
    · unfold evS at K
      rw [if_pos q] at K
      refine sg_E_readOrStop_0 (c_tog hw h (by omega) ⟨_, rfl, fun g => ?_, fun g => ?_⟩)
      · rw [hE.2.1] at g
        rw [if_pos g] at K
        generalize hσ1 : setI (setI σ 4 0 2 (σ.1 4 0 2 + 1)) 4 0 3 ((setI σ 4 0 2 (σ.1 4 0 2 + 1)).1 4 0 3 + tog A a c) = σ1
        have o1 : Off [4] σ σ1 := by rw [← hσ1]; exact Off.sI (Off.sI Off.rf (by decide)) (by decide)
        have r1 : RepC A σ1 := h.off o1
        have e2 : σ1.1 4 0 2 = k + 1 := by rw [← hσ1, sk_f (by decide), setI_at, hE.1]
        have e3 : σ1.1 4 0 3 = t + tog A a c := by rw [← hσ1, setI_at, sk_f (by decide), hE.2.1]
        have e4 : σ1.1 4 0 4 = -1 := by rw [← hσ1, sk_f (by decide), sk_f (by decide), hE.2.2.1]
        have e20 : σ1.1 20 = σ.1 20 := (o1 20 (by decide)).1
        refine upto (n := 6) (P := fun i => ∀ σc, Off [20] σ1 σc → (∀ r, r < 6 → hld a r → σc.1 20 0 r = if r < i then w r + (tog A a c - tm A r c) else w r) → Ev none (d + 3) m_E_readOrStop 52 [some (vR 4 0), some (vI a), some (vI (nI c)), none, some (vI (tog A a c)), some (vI (nI i))] [] σc _) ?_ ?_ σ1 Off.rf (fun r hr hl => by rw [e20, if_neg (by omega)]; exact hE.2.2.2 r hr hl)
        · intro σc ho hwt
          refine sg_E_readOrStop_52 ⟨fun _ => ⟨rfl, ?_⟩, fun q => absurd (Int32.le_refl _) q⟩
          rw [nI_1]
          have o2 : Off [4, 20] σ σc := Off.tr (o1.mono (by decide)) (ho.mono (by decide))
          have e5 := (ho 4 (by decide)).1
          refine c_sit_loop hw f (c + 1) _ _ _ σc (by omega) (h.off o2) ⟨?_, ?_, ?_, fun r hr hl => ?_⟩ (fun σ' g1 g2 => K σ' (Off.tr o2 g1) g2)
          · rw [e5, e2]
          · rw [e5, e3]
          · rw [e5, e4]
          · rw [hwt r hr hl, if_pos hr]
        · intro i hi ih σc ho hwt
          have rc : RepC A σc := r1.off ho
          obtain ⟨t1, t2⟩ := c_tm hw rc hi (show c < nC A by omega)
          refine sg_E_readOrStop_52 ⟨fun q => absurd ((nI_leI (a := 6) (by decide) (by omega)).mp q) (by omega), fun _ => ⟨fun hl => ⟨vpin hi (by decide), t2, vpin hi (by decide), ?_⟩, fun hl => ?_⟩⟩
          · rw [nI_ix (by omega), nI_1, t1]
            refine ih _ (Off.sI ho (by decide)) (fun r hr hlr => ?_)
            rw [setI_if]
            by_cases e : r = i
            · subst e
              rw [if_pos ⟨rfl, rfl⟩, hwt r hr hlr, if_neg (by omega), if_pos (by omega)]
            · rw [if_neg (fun q => e q.2), hwt r hr hlr]
              by_cases e2 : r < i
              · rw [if_pos e2, if_pos (by omega)]
              · rw [if_neg e2, if_neg (by omega)]
          · rw [nI_1]
            refine ih _ ho (fun r hr hlr => ?_)
            rw [hwt r hr hlr]
            have e : r ≠ i := fun q => hl (q ▸ hlr)
            by_cases e2 : r < i
            · rw [if_pos e2, if_pos (by omega)]
            · rw [if_neg e2, if_neg (by omega)]
      · rw [hE.2.1] at g
        rw [if_neg g] at K
        refine ⟨rfl, c_stop (A := A) ?_ (K _ (Off.sI Off.rf (by decide)) ⟨?_, ?_, ?_, fun r hr hl => ?_⟩)⟩
        · rw [setI_at]
          exact nI_nem1 (by omega)
        · rw [sk_f (by decide)]; exact hE.1
        · rw [sk_f (by decide)]; exact hE.2.1
        · rw [setI_at]
        · rw [sk_k (by decide)]; exact hE.2.2.2 r hr hl
    · unfold evS at K
      rw [if_neg q] at K
      rw [nI_1]
      exact c_sit_loop hw f (c + 1) k t w σ (by omega) h hE K
theorem c_sit {A σ : ST} {d c : Nat} {a : Int32} (hw : Wf A) (h : RepC A σ) (hc : c < nC A) {post : Option AV → ST → Prop} (K : ∀ σ', Off [4, 20] σ σ' → cEv a (ev0 A a c) σ' → post none σ') : Ev none (d + 4) m_E_sit 0 [some (vR 4 0), some (vI a), some (vI (nI c)), some (vI (σ.1 0 0 9)), none] [] σ post := by
  rw [h.2.2.2.2.2.1.1]
  refine sg_E_sit_0 ?_
  generalize hσ1 : setI (setI (setI σ 4 0 2 0) 4 0 3 0) 4 0 4 (-1) = σ1
  have o1 : Off [4] σ σ1 := by rw [← hσ1]; exact Off.sI (Off.sI (Off.sI Off.rf (by decide)) (by decide)) (by decide)
  have e2 : σ1.1 4 0 2 = 0 := by rw [← hσ1, sk_f (by decide), sk_f (by decide), setI_at]
  have e3 : σ1.1 4 0 3 = 0 := by rw [← hσ1, sk_f (by decide), setI_at]
  have e4 : σ1.1 4 0 4 = -1 := by rw [← hσ1, setI_at]
  refine upto (n := 6) (P := fun i => ∀ σc, Off [20] σ1 σc → (∀ r, r < i → σc.1 20 0 r = 0) → Ev none (d + 4) m_E_sit 18 [some (vR 4 0), some (vI a), some (vI (nI c)), some (vI (A.1 6 0 0)), some (vI (nI i))] [] σc post) ?_ ?_ σ1 Off.rf (fun r hr => by omega)
  · intro σc ho hz
    have o2 : Off [4, 20] σ σc := Off.tr (o1.mono (by decide)) (ho.mono (by decide))
    have e5 := (ho 4 (by decide)).1
    refine sg_E_sit_18 ⟨fun _ => c_sit_loop hw (nC A - c) c 0 0 (fun _ => 0) σc (by omega) (h.off o2) ⟨?_, ?_, ?_, fun r hr _ => hz r hr⟩ (fun σ' g1 g2 => K σ' (Off.tr o2 g1) g2), fun q => absurd (Int32.le_refl _) q⟩
    · rw [e5, e2]
    · rw [e5, e3]
    · rw [e5, e4]
  · intro i hi ih σc ho hz
    refine sg_E_sit_18 ⟨fun q => absurd ((nI_leI (a := 6) (by decide) (by omega)).mp q) (by omega), fun _ => ⟨vpin hi (by decide), ?_⟩⟩
    rw [nI_ix (by omega), nI_1]
    refine ih _ (Off.sI ho (by decide)) (fun r hr => ?_)
    rw [setI_if]
    by_cases e : r = i
    · rw [if_pos ⟨rfl, e⟩]
    · rw [if_neg (fun q => e q.2)]
      exact hz r (by omega)
theorem m_find_loop {A : ST} {d : Nat} {a : Int32} (hw : Wf A) {post : Option AV → ST → Prop} : ∀ (f c : Nat) (k t : Int32) (w : Nat → Int32) (σ : ST), c + f = nC A → RepM A σ → Psd A σ → mEv a (k, t, -1, w) σ → (∀ σ', OffM [55] [18, 19, 20] σ σ' → mEv a (evS A a (A.1 6 0 0) f c k t w) σ' → post none σ') → Ev none (d + 4) m_M_findEvening 38 [some (vR 11 0), some (vI a), none, some (vI (nI c)), none, none] [] σ post
  | 0, c, k, t, w, σ, hc, h, hp, hE, K => by
    refine sg_M_findEvening_38 ⟨fun _ => K σ OffM.rf hE, fun q => ?_⟩
    rw [hp.1, show c = nC A by omega] at q
    exact absurd (Int32.le_refl _) q
  | f + 1, c, k, t, w, σ, hc, h, hp, hE, K => by
    have h8 := nC_le hw
    have hir := m_isRead hw h hp (show c < nC A by omega)
    refine sg_M_findEvening_38 ⟨fun q => ?_, fun _ => ⟨fun _ => ⟨fun q => ?_, fun q => ?_⟩, fun q => absurd hE.2.2.1 q⟩⟩
    · rw [hp.1] at q
      exact absurd ((nI_leI (by omega) (by omega)).mp q) (by omega)
    · unfold evS at K
      rw [if_pos (hir.mp q)] at K
      refine m_tog hw h hp (by omega) ⟨_, rfl, fun g => ?_, fun g => ?_⟩
      · have g' : t + tog A a c ≤ A.1 6 0 0 := by
          rw [hE.2.1, show (0 : Int32).toNatClampNeg = 0 from rfl, h.2.2.2.2.2.1.1] at g
          exact g
        rw [if_pos g'] at K
        generalize hσ1 : setI (setI σ 11 0 18 (σ.1 11 0 18 + 1)) 11 0 19 ((setI σ 11 0 18 (σ.1 11 0 18 + 1)).1 11 0 19 + tog A a c) = σ1
        have o1 : OffM [55] [18, 19, 20] σ σ1 := by rw [← hσ1]; exact OffM.sF (OffM.sF OffM.rf (by decide)) (by decide)
        have e2 : σ1.1 11 0 18 = k + 1 := by rw [← hσ1, sk_f (by decide), setI_at, hE.1]
        have e3 : σ1.1 11 0 19 = t + tog A a c := by rw [← hσ1, setI_at, sk_f (by decide), hE.2.1]
        have e4 : σ1.1 11 0 20 = -1 := by rw [← hσ1, sk_f (by decide), sk_f (by decide), hE.2.2.1]
        have e20 : σ1.1 55 = σ.1 55 := by rw [← hσ1, sk_k (by decide), sk_k (by decide)]
        refine upto (n := 6) (P := fun i => ∀ σc, OffM [55] [] σ1 σc → (∀ r, r < 6 → hld a r → σc.1 55 0 r = if r < i then w r + (tog A a c - tm A r c) else w r) → Ev none (d + 4) m_M_findEvening 118 [some (vR 11 0), some (vI a), none, some (vI (nI c)), some (vI (tog A a c)), some (vI (nI i))] [] σc _) ?_ ?_ σ1 OffM.rf (fun r hr hl => by rw [e20, if_neg (by omega)]; exact hE.2.2.2 r hr hl)
        · intro σc ho hwt
          refine sg_M_findEvening_118 ⟨fun _ => ?_, fun q => absurd (Int32.le_refl _) q⟩
          rw [nI_1]
          have o2 : OffM [55] [18, 19, 20] σ σc := OffM.tr o1 (ho.mono (by decide) (by decide))
          refine m_find_loop hw f (c + 1) _ _ _ σc (by omega) (h.off o2) (hp.off o2) ⟨?_, ?_, ?_, fun r hr hl => ?_⟩ (fun σ' g1 g2 => K σ' (OffM.tr o2 g1) g2)
          · rw [ho.2 18 (by decide), e2]
          · rw [ho.2 19 (by decide), e3]
          · rw [ho.2 20 (by decide), e4]
          · rw [hwt r hr hl, if_pos hr]
        · intro i hi ih σc ho hwt
          have o2 : OffM [55] [18, 19, 20] σ σc := OffM.tr o1 (ho.mono (by decide) (by decide))
          obtain ⟨t1, t2⟩ := m_tm hw (h.off o2) (hp.off o2) hi (show c < nC A by omega)
          refine sg_M_findEvening_118 ⟨fun q => absurd ((nI_leI (a := 6) (by decide) (by omega)).mp q) (by omega), fun _ => ⟨vpin hi (by decide), t2, vpin hi (by decide), ?_⟩⟩
          rw [nI_ix (by omega), nI_1, t1]
          refine ih _ (OffM.sI ho (by decide) (by decide)) (fun r hr hlr => ?_)
          rw [setI_if]
          by_cases e : r = i
          · subst e
            rw [if_pos ⟨rfl, rfl⟩, hwt r hr hlr, if_neg (by omega), if_pos (by omega)]
          · rw [if_neg (fun q => e q.2), hwt r hr hlr]
            by_cases e2 : r < i
            · rw [if_pos e2, if_pos (by omega)]
            · rw [if_neg e2, if_neg (by omega)]
      · have g' : ¬ t + tog A a c ≤ A.1 6 0 0 := by
          rw [hE.2.1, show (0 : Int32).toNatClampNeg = 0 from rfl, h.2.2.2.2.2.1.1] at g
          exact g
        rw [if_neg g'] at K
        have K' := K (setI σ 11 0 20 (nI c)) (OffM.sF OffM.rf (by decide)) ⟨by rw [sk_f (by decide)]; exact hE.1, by rw [sk_f (by decide)]; exact hE.2.1, by rw [setI_at], fun r hr hl => by rw [sk_k (by decide)]; exact hE.2.2.2 r hr hl⟩
        refine sg_M_findEvening_38 ⟨fun _ => K', fun _ => ⟨fun z => ?_, fun _ => K'⟩⟩
        rw [setI_at] at z
        exact absurd z (nI_nem1 (by omega))
    · unfold evS at K
      rw [if_neg (fun z => q (hir.mpr z))] at K
      rw [nI_1]
      exact m_find_loop hw f (c + 1) k t w σ (by omega) h hp hE K
theorem m_find {A σ : ST} {d c : Nat} {a : Int32} (hw : Wf A) (h : RepM A σ) (hp : Psd A σ) (hc : c < nC A) {post : Option AV → ST → Prop} (K : ∀ σ', OffM [55] [18, 19, 20] σ σ' → mEv a (ev0 A a c) σ' → post none σ') : Ev none (d + 4) m_M_findEvening 0 [some (vR 11 0), some (vI a), some (vI (nI c)), none, none, none] [] σ post := by
  refine sg_M_findEvening_0 ?_
  generalize hσ1 : setI (setI (setI σ 11 0 18 0) 11 0 19 0) 11 0 20 (-1) = σ1
  have o1 : OffM [55] [18, 19, 20] σ σ1 := by rw [← hσ1]; exact OffM.sF (OffM.sF (OffM.sF OffM.rf (by decide)) (by decide)) (by decide)
  have e2 : σ1.1 11 0 18 = 0 := by rw [← hσ1, sk_f (by decide), sk_f (by decide), setI_at]
  have e3 : σ1.1 11 0 19 = 0 := by rw [← hσ1, sk_f (by decide), setI_at]
  have e4 : σ1.1 11 0 20 = -1 := by rw [← hσ1, setI_at]
  refine upto (n := 6) (P := fun i => ∀ σc, OffM [55] [] σ1 σc → (∀ r, r < i → σc.1 55 0 r = 0) → Ev none (d + 4) m_M_findEvening 17 [some (vR 11 0), some (vI a), some (vI (nI c)), some (vI (nI i)), none, none] [] σc post) ?_ ?_ σ1 OffM.rf (fun r hr => by omega)
  · intro σc ho hz
    have o2 : OffM [55] [18, 19, 20] σ σc := OffM.tr o1 (ho.mono (by decide) (by decide))
    refine sg_M_findEvening_17 ⟨fun _ => m_find_loop hw (nC A - c) c 0 0 (fun _ => 0) σc (by omega) (h.off o2) (hp.off o2) ⟨?_, ?_, ?_, fun r hr _ => hz r hr⟩ (fun σ' g1 g2 => K σ' (OffM.tr o2 g1) g2), fun q => absurd (Int32.le_refl _) q⟩
    · rw [ho.2 18 (by decide), e2]
    · rw [ho.2 19 (by decide), e3]
    · rw [ho.2 20 (by decide), e4]
  · intro i hi ih σc ho hz
    refine sg_M_findEvening_17 ⟨fun q => absurd ((nI_leI (a := 6) (by decide) (by omega)).mp q) (by omega), fun _ => ⟨vpin hi (by decide), ?_⟩⟩
    rw [nI_ix (by omega), nI_1]
    refine ih _ (OffM.sI ho (by decide) (by decide)) (fun r hr => ?_)
    rw [setI_if]
    by_cases e : r = i
    · rw [if_pos ⟨rfl, e⟩]
    · rw [if_neg (fun q => e q.2)]
      exact hz r (by omega)
-- evening
abbrev g_even (A : ST) (a1 a2 a3 : Int32) : Prop := rg a1 1 63 ∧ rg a2 0 ((nC A : Int) - 1) ∧ rg a3 0 2
def evv (A : ST) (a1 : Int32) (c : Nat) (a3 : Int32) : Int32 := if a3 = 0 then (ev0 A a1 c).1 else if a3 = 1 then (ev0 A a1 c).2.1 else (ev0 A a1 c).2.2.1
def an_even (A : ST) (a1 a2 a3 : Int32) : Int32 := if g_even A a1 a2 a3 then evv A a1 a2.toNatClampNeg a3 else -2
theorem cs_even {A : ST} {a1 a2 a3 : Int32} {d : Nat} (hw : Wf A) : CS m_O_evening [some (vR 0 0), some (vI a1), some (vI a2), some (vI a3)] (d + 5) A A (vI (an_even A a1 a2 a3)) := by
  intro σ post h K
  unfold an_even evv at K
  have h8 := nC_le hw
  by_cases hg : g_even A a1 a2 a3
  · rw [if_pos hg] at K
    refine sg_O_evening_0 ⟨fun _ => ?_, fun g => absurd ⟨(wi 1 63).mpr hg.1, (c_isCh hw h).mpr hg.2.1, (wi 0 2).mpr hg.2.2⟩ g⟩
    obtain ⟨c, hc, rfl⟩ := ch_ix hw hg.2.1
    rw [nI_ix (by omega)] at K
    refine c_sit hw h hc (fun σ' h1 h2 => ⟨rfl, ?_⟩)
    have K' := K σ' (h.off h1) (AgM.off h1)
    unfold fn_E_chapters fn_E_minute fn_E_next
    rw [h2.1, h2.2.1, h2.2.2.1]
    refine ⟨fun q => ?_, fun q => ⟨fun q2 => ?_, fun q2 => ?_⟩⟩
    · rw [if_pos q] at K'; exact K'
    · rw [if_neg q, if_pos q2] at K'; exact K'
    · rw [if_neg q, if_neg q2] at K'; exact K'
  · rw [if_neg hg] at K
    exact sg_O_evening_0 ⟨fun g => absurd ⟨(wi 1 63).mp g.1, (c_isCh hw h).mp g.2.1, (wi 0 2).mp g.2.2⟩ hg, fun _ => K σ h (AgM.off (S := []) Off.rf)⟩
theorem m_evOf {A σ : ST} {a1 a3 : Int32} {c d : Nat} (hw : Wf A) (h : RepM A σ) (hp : Psd A σ) (hc : c < nC A) {post : Option AV → ST → Prop} (K : ∀ σ', OffM [55] [18, 19, 20] σ σ' → post (some (vI (evv A a1 c a3))) σ') : Ev none (d + 5) m_M_eveningOf 0 [some (vR 11 0), some (vI a1), some (vI (nI c)), some (vI a3)] [] σ post := by
  refine sg_M_eveningOf_0 (m_find hw h hp hc (fun σ' h1 h2 => ⟨rfl, ?_⟩))
  have K' := K σ' h1
  unfold evv at K'
  rw [h2.1, h2.2.1, h2.2.2.1]
  refine ⟨fun q => ?_, fun q => ⟨fun q2 => ?_, fun q2 => ?_⟩⟩
  · rw [if_pos q] at K'; exact K'
  · rw [if_neg q, if_pos q2] at K'; exact K'
  · rw [if_neg q, if_neg q2] at K'; exact K'
theorem ms_even {A : ST} {a1 a2 a3 : Int32} {d : Nat} (hw : Wf A) : MSp m_M_evening [some (vR 11 0), some (vI a1), some (vI a2), some (vI a3)] (d + 6) A A (vI (an_even A a1 a2 a3)) := by
  intro σ post h K
  unfold an_even at K
  have h8 := nC_le hw
  refine sg_M_evening_0 ⟨fun g1 => m_isCh hw h (fun σ1 h1 h2 h3 => ⟨_, rfl, fun q => ?_, fun q => ?_⟩), fun g1 => ?_⟩
  · rw [if_neg] at K
    · exact K σ1 h1 (AgC.off h3)
    · rintro ⟨z1, z2, z3⟩
      rcases q with q | q
      · exact bi_0.mp q z2
      · exact q ((mi 0 2).mpr z3)
  · have z1 := (mi 1 63).mp g1
    have z2 : rg a2 0 ((nC A : Int) - 1) := Decidable.byContradiction fun z => q (Or.inl (bi_0.mpr z))
    have z3 : rg a3 0 2 := Decidable.byContradiction fun z => q (Or.inr (fun w => z ((mi 0 2).mp w)))
    rw [if_pos ⟨z1, z2, z3⟩] at K
    obtain ⟨c, hc, rfl⟩ := ch_ix hw z2
    rw [nI_ix (by omega)] at K
    exact m_evOf hw h1 h2 hc (fun σ' g => ⟨_, rfl, K σ' (h1.off g) (AgC.tr (AgC.off h3) (AgC.off g))⟩)
  · rw [if_neg (fun z => g1 ((mi 1 63).mpr z.1))] at K
    exact K σ h (AgC.off (S := []) (F := []) OffM.rf)
-- waited
abbrev g_wait (A : ST) (a1 a2 a3 a4 : Int32) : Prop := rg a1 1 63 ∧ rg a2 0 ((nC A : Int) - 1) ∧ rg a4 0 1 ∧ rg a3 0 5 ∧ hld a1 a3.toNatClampNeg
def wtv (A : ST) (a1 : Int32) (c r : Nat) (a4 : Int32) : Int32 := if a4 = 0 then (ev0 A a1 c).2.2.2 r else imax 0 (A.1 5 r 0 - (ev0 A a1 c).2.2.2 r)
def an_wait (A : ST) (a1 a2 a3 a4 : Int32) : Int32 := if g_wait A a1 a2 a3 a4 then wtv A a1 a2.toNatClampNeg a3.toNatClampNeg a4 else -2
theorem hld_a {a1 a3 : Int32} {r : Nat} (h : rg a3 0 (r : Int)) (hr : r < 2 ^ 31) : hld a1 a3.toNatClampNeg ↔ ((isr a1 a3) &&& (1 : Int32)) = 1 := by
  obtain ⟨j, hj, rfl⟩ := rg_nI (n := r) h
  rw [nI_ix (by omega)]
theorem c_wtv {A σ : ST} {a1 : Int32} {c r : Nat} (h : RepC A σ) (hE : cEv a1 (ev0 A a1 c) σ) (hr : r < 6) (hl : hld a1 r) : (fs_E_waitOf σ (nI r) ∧ fn_E_waitOf σ (nI r) = wtv A a1 c r 0) ∧ fs_E_workLeft σ (nI r) ∧ fn_E_workLeft σ (nI r) = wtv A a1 c r 1 := by
  unfold fs_E_waitOf fn_E_waitOf fs_E_workLeft fn_E_workLeft wtv fs_C_person fn_R_work
  rw [if_pos rfl, if_neg (show ¬ (1 : Int32) = 0 by decide), show fx_C_person σ (nI r) = r from nI_ix (by omega), nI_ix (by omega), hE.2.2.2 r hr hl, show (0 : Int32).toNatClampNeg = 0 from rfl, h.2.2.2.2.1 r 0 hr (by omega)]
  exact ⟨⟨vpin hr (by decide), rfl⟩, ⟨vpin hr (by decide), vpin hr (by decide)⟩, rfl⟩
theorem cs_wait {A : ST} {a1 a2 a3 a4 : Int32} {d : Nat} (hw : Wf A) : CS m_O_waited [some (vR 0 0), some (vI a1), some (vI a2), some (vI a3), some (vI a4)] (d + 5) A A (vI (an_wait A a1 a2 a3 a4)) := by
  intro σ post h K
  unfold an_wait at K
  have h8 := nC_le hw
  by_cases hg : g_wait A a1 a2 a3 a4
  · rw [if_pos hg] at K
    obtain ⟨g1, g2, g3, g4, g5⟩ := hg
    refine sg_O_waited_0 ⟨fun _ => ⟨fun _ => ⟨fun _ => ⟨fun _ => ?_, fun g => absurd ⟨(wi 0 5).mpr g4, (hld_a (r := 5) g4 (by decide)).mp g5⟩ g⟩, fun g => absurd ((wi 0 1).mpr g3) g⟩, fun g => absurd ((c_isCh hw h).mpr g2) g⟩, fun g => absurd ((wi 1 63).mpr g1) g⟩
    obtain ⟨c, hc, rfl⟩ := ch_ix hw g2
    obtain ⟨r, hr, rfl⟩ := rg_nI (n := 5) g4
    rw [nI_ix (by omega), nI_ix (by omega)] at K
    rw [nI_ix (by omega)] at g5
    refine c_sit hw h hc (fun σ' h1 h2 => ⟨rfl, ?_⟩)
    have K' := K σ' (h.off h1) (AgM.off h1)
    obtain ⟨⟨v1, v2⟩, v3, v4⟩ := c_wtv (h.off h1) h2 (show r < 6 by omega) g5
    refine ⟨fun q => ⟨v1, ?_⟩, fun q => ⟨v3, ?_⟩⟩
    · rw [v2]
      rw [q] at K'
      exact K'
    · rw [v4]
      have : a4 = 1 := (rg01 g3).resolve_left q
      rw [this] at K'
      exact K'
  · rw [if_neg hg] at K
    have K' := K σ h (AgM.off (S := []) Off.rf)
    refine sg_O_waited_0 ⟨fun g1 => ⟨fun g2 => ⟨fun g3 => ⟨fun g4 => ?_, fun _ => K'⟩, fun _ => K'⟩, fun _ => K'⟩, fun _ => K'⟩
    have z4 := (wi 0 5).mp g4.1
    exact absurd ⟨(wi 1 63).mp g1, (c_isCh hw h).mp g2, (wi 0 1).mp g3, z4, (hld_a (r := 5) z4 (by decide)).mpr g4.2⟩ hg
theorem m_wtOf {A σ : ST} {a1 a4 : Int32} {c r d : Nat} (hw : Wf A) (h : RepM A σ) (hp : Psd A σ) (hc : c < nC A) (hr : r < 6) (hl : hld a1 r) {post : Option AV → ST → Prop} (K : ∀ σ', OffM [55] [18, 19, 20] σ σ' → post (some (vI (wtv A a1 c r a4))) σ') : Ev none (d + 5) m_M_waitedOf 0 [some (vR 11 0), some (vI a1), some (vI (nI c)), some (vI (nI r)), some (vI a4), none] [] σ post := by
  have hv := vpin hr (by decide)
  refine sg_M_waitedOf_0 (m_find hw h hp hc (fun σ' h1 h2 => ⟨rfl, hv, hv, ?_⟩))
  have K' := K σ' h1
  unfold wtv at K'
  have h1' := h.off h1
  rw [nI_ix (by omega), h2.2.2.2 r hr hl, (h1'.2.2.2.2.1 r hr).1]
  refine ⟨fun q => ?_, fun q => ?_⟩
  · rw [if_pos q] at K'
    exact ⟨hv, K'⟩
  · rw [if_neg q] at K'
    refine ⟨fun z => ?_, fun z => ?_⟩
    · unfold imax at K'
      by_cases g : (0 : Int32) < A.1 5 r 0 - (ev0 A a1 c).2.2.2 r
      · rw [if_pos g] at K'; exact K'
      · rw [if_neg g] at K'
        have := Int32.le_antisymm (Int32.not_lt.mp g) z
        rw [this]
        exact K'
    · unfold imax at K'
      rw [if_neg (fun g => z (Int32.le_of_lt g))] at K'
      exact K'
theorem ms_wait {A : ST} {a1 a2 a3 a4 : Int32} {d : Nat} (hw : Wf A) : MSp m_M_waited [some (vR 11 0), some (vI a1), some (vI a2), some (vI a3), some (vI a4), none] (d + 6) A A (vI (an_wait A a1 a2 a3 a4)) := by
  intro σ post h K
  unfold an_wait at K
  have h8 := nC_le hw
  refine sg_M_waited_0 ⟨fun g1 => m_isCh hw h (fun σ1 h1 h2 h3 => ⟨_, rfl, fun z hz => ⟨fun q => ?_, fun q => ?_⟩⟩), fun g1 => ⟨fun _ => ?_, fun q => absurd (Or.inl rfl) q⟩⟩
  · rw [if_neg] at K
    · exact K σ1 h1 (AgC.off h3)
    · rintro ⟨z1, z2, z3, z4, z5⟩
      rcases q with q | q
      · rw [hz] at q
        refine bi_0.mp q ⟨fun w => bi_0.mp w z2, (mi 0 5).mpr z4, (mi 0 1).mpr z3⟩
      · exact q ((hld_a (r := 5) z4 (by decide)).mp z5)
  · have q1 : ¬ z = 0 := fun w => q (Or.inl w)
    have q2 : fp_M_isIn σ1 a1 a3 := Decidable.byContradiction fun w => q (Or.inr w)
    have q3 : _ := Decidable.byContradiction fun w => q1 (by rw [hz]; exact bi_0.mpr w)
    obtain ⟨z2, z4, z3⟩ := q3
    have z1 := (mi 1 63).mp g1
    have z2' : rg a2 0 ((nC A : Int) - 1) := Decidable.byContradiction fun z => z2 (bi_0.mpr z)
    have z4' := (mi 0 5).mp z4
    rw [if_pos ⟨z1, z2', (mi 0 1).mp z3, z4', (hld_a (r := 5) z4' (by decide)).mpr q2⟩] at K
    obtain ⟨c, hc, rfl⟩ := ch_ix hw z2'
    obtain ⟨r, hr, rfl⟩ := rg_nI (n := 5) z4'
    rw [nI_ix (by omega), nI_ix (by omega)] at K
    exact m_wtOf hw h1 h2 hc (by omega) q2 (fun σ' g => ⟨_, rfl, K σ' (h1.off g) (AgC.tr (AgC.off h3) (AgC.off g))⟩)
  · rw [if_neg (fun z => g1 ((mi 1 63).mpr z.1))] at K
    exact K σ h (AgC.off (S := []) (F := []) OffM.rf)
