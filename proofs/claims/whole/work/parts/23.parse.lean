-- the book is read: by the class
theorem irm4 {n : Nat} (hn : n < 2 ^ 31) : irm (nI n) 4 = nI (n % 4) := pk_rem (a := n) (d := 4) hn (by decide) (by decide)
theorem kindAt_eq {σ : ST} {p : Nat} (hp : p < 60) : fn_B_kindAt σ (nI p) = kdB (σ.1 12 0 p) := by
  unfold fn_B_kindAt kdB
  rw [nI_ix (by omega)]
theorem figAt_eq {σ : ST} {p : Nat} (hp : p < 60) : fn_B_figureAt σ (nI p) = fgB (σ.1 12 0 p) := by
  unfold fn_B_figureAt fgB
  rw [nI_ix (by omega)]
theorem nI_is {a b : Nat} (ha : a < 2 ^ 31) (hb : b < 2 ^ 31) : nI a = nI b ↔ a = b := nI_eq ha hb
theorem gon_c {σ : ST} {p : Nat} (hp : p < 60) : fp_B_goesOn σ (nI p) ↔ gon (σ.1 12 0) p := by
  unfold fp_B_goesOn gon
  rw [irm4 (by omega), kindAt_eq hp, figAt_eq hp, nI_ix (by omega)]
  have h0 : nI (p % 4) = 0 ↔ p % 4 = 0 := nI_is (b := 0) (by omega) (by decide)
  have h3 : nI (p % 4) = 3 ↔ p % 4 = 3 := nI_is (b := 3) (by omega) (by decide)
  rw [h0, h3]
  constructor
  · rintro (⟨q1, q2⟩ | ⟨q1, (⟨q2, q3⟩ | ⟨q2, q3⟩)⟩)
    · exact Or.inl ⟨q1, q2⟩
    · exact Or.inr (Or.inl ⟨q2, q3⟩)
    · exact Or.inr (Or.inr ⟨by omega, q3⟩)
  · rintro (⟨q1, q2⟩ | ⟨q2, q3⟩ | ⟨q2, q3⟩)
    · exact Or.inl ⟨q1, q2⟩
    · exact Or.inr ⟨by omega, Or.inl ⟨q2, q3⟩⟩
    · exact Or.inr ⟨by omega, Or.inr ⟨by omega, q3⟩⟩
theorem gon_s {σ : ST} {p : Nat} (hp : p < 60) : fs_B_goesOn σ (nI p) := by
  have hv := vpin hp (by decide)
  exact ⟨fun _ => hv, fun _ => ⟨fun _ => hv, fun _ => hv⟩⟩
theorem nI_p1 {p : Nat} (hp : 1 ≤ p) : nI p - 1 = nI (p - 1) := by
  rw [show (1 : Int32) = nI 1 from rfl, pk_sub hp]
theorem ff_loop {d n : Nat} {σ : ST} (hn : n ≤ 60) (e3 : σ.1 1 0 3 = nI n) {post : Option AV → ST → Prop} : ∀ (k p : Nat), p + k = n → post (some (vI (ffl (σ.1 12 0) n k p))) σ → Ev none (d + 2) m_B_findFault 2 [some (vR 1 0), some (vI (nI p))] [] σ post
  | 0, p, hp, K => by
    have e : p = n := by omega
    subst e
    unfold ffl at K
    refine sg_B_findFault_2 ?_
    rw [e3, irm4 (by omega)]
    have h0 : nI p = 0 ↔ p = 0 := nI_is (b := 0) (by omega) (by decide)
    have h3 : nI (p % 4) = 3 ↔ p % 4 = 3 := nI_is (b := 3) (by omega) (by decide)
    rw [h0, h3]
    refine ⟨fun _ => ⟨fun q => ?_, fun q => ?_⟩, fun q => absurd (Int32.le_refl _) q⟩
    · rw [if_neg (fun z => z.elim q.1 q.2)] at K
      exact K
    · rw [if_pos (by omega)] at K
      exact K
  | k + 1, p, hp, K => by
    unfold ffl at K
    have h60 : p < 60 := by omega
    refine sg_B_findFault_2 ?_
    rw [e3]
    refine ⟨fun q => absurd ((nI_leI (by omega) (by omega)).mp q) (by omega), fun _ => ⟨fun q => ?_, fun q => ⟨gon_s h60, fun g => ?_, fun g => ?_⟩⟩⟩
    · have : 32 ≤ p := (nI_leI (a := 32) (by decide) (by omega)).mp q
      rw [if_pos (Or.inl this)] at K
      exact K
    · have h32 : ¬ 32 ≤ p := fun z => q ((nI_leI (a := 32) (by decide) (by omega)).mpr z)
      have hg := (gon_c h60).mp g
      rw [if_neg (fun z => z.elim h32 (fun z => z hg))] at K
      rw [irm4 (by omega)]
      have h2 : nI (p % 4) = 2 ↔ p % 4 = 2 := nI_is (b := 2) (by omega) (by decide)
      rw [h2]
      refine ⟨⟨fun z => ?_, fun _ => trivial⟩, fun z => ?_, fun z => ?_⟩
      · rw [nI_p1 (by omega)]
        exact ⟨vpin (by omega) (by decide), fun _ => vpin h60 (by decide), fun _ => trivial⟩
      · rw [if_neg ?_] at K
        · rw [nI_1]
          exact ff_loop hn e3 k (p + 1) (by omega) K
        · rintro ⟨z1, z2, z3⟩
          rcases z with z | z | z
          · exact z z1
          · rw [nI_p1 (by omega), figAt_eq (by omega)] at z
            exact z z2
          · rw [figAt_eq h60] at z
            exact z z3
      · have hz : zro (σ.1 12 0) p := by
          have z1 : p % 4 = 2 := Decidable.byContradiction fun w => z (Or.inl w)
          refine ⟨z1, ?_, ?_⟩
          · refine Decidable.byContradiction fun w => z (Or.inr (Or.inl ?_))
            rw [nI_p1 (by omega), figAt_eq (by omega)]
            exact w
          · refine Decidable.byContradiction fun w => z (Or.inr (Or.inr ?_))
            rw [figAt_eq h60]
            exact w
        rw [if_pos hz] at K
        rw [nI_p1 (by have := hz.1; omega)]
        exact K
    · rw [if_pos (Or.inr (fun z => g ((gon_c h60).mpr z)))] at K
      exact K
theorem parse_loop {d n : Nat} {b : Nat → Int32} (hn : n ≤ 60) {post : Option AV → ST → Prop} : ∀ (m c : Nat) (σ : ST), c + m = nch b n → σ.1 1 0 4 = nI (nch b n) → σ.1 12 0 = b → (∀ σ', Off [13, 14] σ σ' → (∀ x, x < c → σ'.1 13 0 x = σ.1 13 0 x ∧ σ'.1 14 0 x = σ.1 14 0 x) → (∀ x, c ≤ x → x < nch b n → σ'.1 13 0 x = knd b x ∧ σ'.1 14 0 x = lns b x) → post none σ') → Ev none (d + 3) m_B_parse 34 [some (vR 1 0), some (vI (nI c))] [] σ post
  | 0, c, σ, hc, e4, eb, K => by
    have h8 := nch_le (b := b) hn
    refine sg_B_parse_34 ⟨fun _ => K σ Off.rf (fun _ _ => ⟨rfl, rfl⟩) (fun x h1 h2 => by omega), fun q => ?_⟩
    rw [e4] at q
    exact absurd ((nI_leI (by omega) (by omega)).mpr (by omega)) q
  | m + 1, c, σ, hc, e4, eb, K => by
    have h8 := nch_le (b := b) hn
    have hcn : 4 * c + 2 < n := by
      have : c < nch b n := by omega
      unfold nch at this
      split at this
      next h =>
        have := (flt_none hn h).1
        omega
      next => omega
    refine sg_B_parse_34 ⟨fun q => ?_, fun q => ?_⟩
    · rw [e4] at q
      exact absurd ((nI_leI (by omega) (by omega)).mp q) (by omega)
    · have e1 : nI c * 4 = nI (4 * c) := by rw [show (4 : Int32) = nI 4 from rfl, pk_mul, Nat.mul_comm]
      have e2 : nI (4 * c) + 1 = nI (4 * c + 1) := nI_1 _
      have e3 : nI (4 * c) + 2 = nI (4 * c + 2) := by rw [show (2 : Int32) = nI 2 from rfl, nI_add]
      rw [e1, e2, e3, kindAt_eq (by omega), figAt_eq (by omega), figAt_eq (by omega), nI_ix (by omega), sk_k (by decide), eb, nI_1]
      refine ⟨vpin (by omega) (by decide), vpin (by omega) (by decide), vpin (by omega) (by decide), vpin (by omega) (by decide), vpin (by omega) (by decide), ?_⟩
      refine parse_loop (b := b) hn m (c + 1) _ (by omega) (by rw [sk_k (by decide), sk_k (by decide)]; exact e4) (by rw [sk_k (by decide), sk_k (by decide)]; exact eb) (fun σ' h1 h2 h3 => K σ' (Off.tr (Off.sI (Off.sI Off.rf (by decide)) (by decide)) h1) (fun x hx => ?_) (fun x g1 g2 => ?_))
      · obtain ⟨p1, p2⟩ := h2 x (by omega)
        rw [p1, p2, sk_k (by decide), sk_f (by omega), sk_f (by omega), sk_k (by decide)]
        exact ⟨rfl, rfl⟩
      · by_cases hx : x = c
        · subst hx
          obtain ⟨p1, p2⟩ := h2 x (by omega)
          rw [p1, p2, sk_k (by decide), setI_at, setI_at]
          exact ⟨rfl, rfl⟩
        · exact h3 x (by omega) g2
/-- parse(): the cells tell the book -/
theorem c_parse {d n : Nat} {σ : ST} {post : Option AV → ST → Prop} (hn : n ≤ 60) (e3 : σ.1 1 0 3 = nI n) (K : ∀ σ', Off [1, 13, 14] σ σ' → σ'.1 1 0 3 = nI n → σ'.1 1 0 4 = nI (nch (σ.1 12 0) n) → σ'.1 1 0 5 = flt (σ.1 12 0) n → (∀ c, c < nch (σ.1 12 0) n → σ'.1 13 0 c = knd (σ.1 12 0) c ∧ σ'.1 14 0 c = lns (σ.1 12 0) c) → post none σ') : Ev none (d + 3) m_B_parse 0 [some (vR 1 0), none] [] σ post := by
  refine sg_B_parse_0 (sg_B_findFault_0 (ff_loop hn e3 n 0 (by omega) ⟨_, rfl, ?_⟩))
  intro z hz
  have hz' : z = nI (nch (σ.1 12 0) n) := by
    rw [hz, setI_at, sk_f (by decide), e3, nI_1]
    unfold nch flt
    split
    · rw [show (4 : Int32) = nI 4 from rfl, pk_div (by omega) (by decide) (by decide)]
    · rfl
  subst hz'
  refine parse_loop (b := σ.1 12 0) hn (nch (σ.1 12 0) n) 0 _ (by omega) (by rw [setI_at]) (by rw [sk_k (by decide), sk_k (by decide)]) (fun σ' h1 h2 h3 => ?_)
  have e1 := (h1 1 (by decide)).1
  refine K σ' (Off.tr (Off.sI (Off.sI Off.rf (by decide)) (by decide)) (h1.mono (by decide))) ?_ ?_ ?_ (fun c hc => h3 c (by omega) hc)
  · rw [e1, sk_f (by decide), sk_f (by decide)]
    exact e3
  · rw [e1, setI_at]
  · rw [e1, sk_f (by decide), setI_at]
    rfl
-- type, wipe, fault, chapter of the class
abbrev g_type (a1 : Int32) : Prop := rg a1 0 255
def bput (A : ST) (a1 : Int32) : ST := setI (setI A 1 0 (sN A) a1) 0 0 0 (nI (sN A + 1))
def an_type (A : ST) (a1 : Int32) : Int32 := if g_type a1 then (if sN A = 60 then -4 else nI (sN A + 1)) else -2
def st_type (A : ST) (a1 : Int32) : ST := if g_type a1 then (if sN A = 60 then A else bput A a1) else A
theorem bput_A {A : ST} {a1 : Int32} : ∀ k, k ∉ ([0, 1] : List Nat) → (bput A a1).1 k = A.1 k := by
  intro k hk
  unfold bput
  rw [sk_k (fun q => hk (by rw [q]; decide)), sk_k (fun q => hk (by rw [q]; decide))]
theorem bput_N {A : ST} {a1 : Int32} (h : sN A ≤ 60) : sN (bput A a1) = sN A + 1 := by
  unfold bput
  show ((setI (setI A 1 0 (sN A) a1) 0 0 0 (nI (sN A + 1))).1 0 0 0).toNatClampNeg = _
  rw [setI_at, nI_ix (by omega)]
theorem wf_type {A : ST} {a1 : Int32} (h : Wf A) : Wf (st_type A a1) := by
  unfold st_type
  split
  · split
    · exact h
    next hn =>
      have hB := h.1
      have hl : sN A ≤ 60 := hB.2
      refine h.putB bput_A ?_
      unfold wB
      rw [bput_N hl]
      refine ⟨?_, by omega⟩
      unfold bput
      rw [setI_at]
  · exact h
theorem cB_of {A σ : ST} {n : Nat} (hN : sN A = n) (e0 : σ.1 1 0 3 = A.1 0 0 0) (eb : σ.1 12 0 = A.1 1 0) (e4 : σ.1 1 0 4 = nI (nch (A.1 1 0) n)) (e5 : σ.1 1 0 5 = flt (A.1 1 0) n) (ec : ∀ c, c < nch (A.1 1 0) n → σ.1 13 0 c = knd (A.1 1 0) c ∧ σ.1 14 0 c = lns (A.1 1 0) c) : cB A σ := by
  subst hN
  exact ⟨⟨e0, eb⟩, e4, e5, ec⟩
theorem cs_type {A : ST} {a1 : Int32} {d : Nat} (hw : Wf A) : CS m_O_type [some (vR 0 0), some (vI a1)] (d + 5) A (st_type A a1) (vI (an_type A a1)) := by
  intro σ post h K
  unfold an_type st_type at K
  have hl : sN A ≤ 60 := hw.1.2
  have eN : σ.1 1 0 3 = nI (sN A) := h.1.1.1.trans hw.1.1
  by_cases hg : g_type a1
  · rw [if_pos hg, if_pos hg] at K
    refine sg_O_type_0 ⟨fun _ => sg_B_append_0 ?_, fun g => absurd ((wi 0 255).mpr hg) g⟩
    rw [eN]
    refine ⟨fun q => ?_, fun q => ?_⟩
    · have hlt : sN A < 60 := (nI_ltI (by omega) (by decide)).mp q
      rw [if_neg (by omega), if_neg (by omega)] at K
      refine ⟨vpin hlt (by decide), ?_⟩
      rw [nI_ix (by omega), sk_k (by decide), eN, nI_1]
      refine c_parse (n := sN A + 1) (by omega) (by rw [setI_at]) (fun σ' h1 h2 h3 h4 h5 => ⟨rfl, _, rfl, fun z => absurd z (by decide), fun _ => ?_⟩)
      unfold fn_B_size
      rw [h2]
      have ho : Off [1, 12, 13, 14] σ σ' := Off.tr (Off.sI (Off.sI Off.rf (by decide)) (by decide)) (h1.mono (by decide))
      have eb : (setI (setI σ 12 0 (sN A) a1) 1 0 3 (nI (sN A + 1))).1 12 0 = (bput A a1).1 1 0 := by
        unfold bput
        rw [sk_k (show (12 : Nat) ≠ 1 by decide), sk_k (show (1 : Nat) ≠ 0 by decide)]
        funext x
        rw [setI_if, setI_if, h.1.1.2]
      rw [eb] at h3 h4 h5
      refine K σ' (h.putB bput_A ho (cB_of (bput_N hl) ?_ ?_ h3 h4 h5)) (AgM.off ho)
      · rw [h2]
        unfold bput
        rw [setI_at]
      · rw [(h1 12 (by decide)).1]
        exact eb
    · have hge : ¬ sN A < 60 := fun z => q ((nI_ltI (by omega) (by decide)).mpr z)
      rw [if_pos (by omega), if_pos (by omega)] at K
      exact ⟨_, rfl, fun _ => K σ h (AgM.off (S := []) Off.rf), fun z => absurd rfl z⟩
  · rw [if_neg hg, if_neg hg] at K
    have K' := K σ h (AgM.off (S := []) Off.rf)
    exact sg_O_type_0 ⟨fun g => absurd ((wi 0 255).mp g) hg, fun _ => K'⟩
theorem ms_type {A : ST} {a1 : Int32} {d : Nat} (hw : Wf A) : MSp m_M_type [some (vR 11 0), some (vI a1)] (d + 1) A (st_type A a1) (vI (an_type A a1)) := by
  intro σ post h K
  unfold an_type st_type at K
  have hl : sN A ≤ 60 := hw.1.2
  have eN : σ.1 11 0 6 = nI (sN A) := h.1.1.trans hw.1.1
  by_cases hg : g_type a1
  · rw [if_pos hg, if_pos hg] at K
    refine sg_M_type_0 ⟨fun _ => ?_, fun g => absurd ((mi 0 255).mpr hg) g⟩
    simp only [eN, sk_k (show (11 : Nat) ≠ 46 by decide), setI_at]
    refine ⟨fun q => ?_, fun q => ?_⟩
    · have : sN A = 60 := (nI_eq (by omega) (by decide)).mp q
      rw [if_pos this, if_pos this] at K
      exact K σ h (AgC.off (S := []) (F := []) OffM.rf)
    · have hne : ¬ sN A = 60 := fun z => q (by rw [z]; rfl)
      rw [if_neg hne, if_neg hne] at K
      refine ⟨vpin (by omega) (by decide), ?_⟩
      rw [nI_1, nI_ix (by omega)]
      have ho : OffM [46] [6] σ (setI (setI σ 46 0 (sN A) a1) 11 0 6 (nI (sN A + 1))) := OffM.sF (OffM.sI OffM.rf (by decide) (by decide)) (by decide)
      refine K _ (h.putB bput_A ho ⟨?_, ?_⟩) (AgC.off ho)
      · unfold bput
        rw [setI_at, setI_at]
      · unfold bput
        rw [sk_k (show (46 : Nat) ≠ 11 by decide), sk_k (show (1 : Nat) ≠ 0 by decide)]
        funext x
        rw [setI_if, setI_if, h.1.2]
  · rw [if_neg hg, if_neg hg] at K
    have K' := K σ h (AgC.off (S := []) (F := []) OffM.rf)
    exact sg_M_type_0 ⟨fun g => absurd ((mi 0 255).mp g) hg, fun _ => K'⟩
def st_wipe (A : ST) : ST := setI A 0 0 0 0
theorem wipe_N {A : ST} : sN (st_wipe A) = 0 := by
  show ((setI A 0 0 0 0).1 0 0 0).toNatClampNeg = 0
  rw [setI_at]
  rfl
theorem wf_wipe {A : ST} (h : Wf A) : Wf (st_wipe A) := by
  refine h.putB (hA1 (by decide)) ?_
  unfold wB
  rw [wipe_N]
  unfold st_wipe
  rw [setI_at]
  exact ⟨rfl, by decide⟩
theorem cs_wipe {A : ST} {d : Nat} : CS m_O_wipe [some (vR 0 0), none] (d + 5) A (st_wipe A) (vI (A.1 0 0 0)) := by
  intro σ post h K
  refine sg_O_wipe_0 (sg_B_clear_0 (c_parse (n := 0) (by decide) (by rw [setI_at]; rfl) (fun σ' h1 h2 h3 h4 h5 => ⟨rfl, rfl, ?_⟩)))
  unfold fn_B_size
  rw [h.1.1.1]
  have ho : Off [1, 13, 14] σ σ' := Off.tr (Off.sI Off.rf (by decide)) h1
  have eb : (setI σ 1 0 3 0).1 12 0 = (st_wipe A).1 1 0 := by
    unfold st_wipe
    rw [sk_k (by decide), sk_k (by decide)]
    exact h.1.1.2
  rw [eb] at h3 h4 h5
  refine K σ' (h.putB (hA1 (by decide)) ho (cB_of wipe_N ?_ ?_ h3 h4 h5)) (AgM.off ho)
  · rw [h2]
    unfold st_wipe
    rw [setI_at]
    rfl
  · rw [(h1 12 (by decide)).1]
    exact eb
theorem ms_wipe {A : ST} {d : Nat} : MSp m_M_wipe [some (vR 11 0), none] d A (st_wipe A) (vI (A.1 0 0 0)) := by
  intro σ post h K
  refine sg_M_wipe_0 ?_
  rw [h.1.1]
  have ho : OffM [] [6] σ (setI σ 11 0 6 0) := OffM.sF OffM.rf (by decide)
  refine K _ (h.putB (hA1 (by decide)) ho ⟨?_, ?_⟩) (AgC.off ho)
  · unfold st_wipe
    rw [setI_at, setI_at]
  · unfold st_wipe
    rw [sk_k (by decide), sk_k (by decide)]
    exact h.1.2
