-- sheets: sheet, lose, lay, get, copy
def fnd (A : ST) (k : Int32) : ST := setI A 11 0 0 k
theorem wf_fnd {A : ST} {k : Int32} (h : Wf A) : Wf (fnd A k) := by
  refine h.putO (hA1 (by decide)) ?_
  have h6 := h.2.2.2.2.2.1
  unfold wO fnd at *
  rw [sk_k (by decide)]
  exact h6
/-- a FINDING of the class, of the reference -/
theorem c_found {A σ : ST} {k : Int32} {d : Nat} {post : Option AV → ST → Prop} (h : RepC A σ) (K : ∀ σ', RepC (fnd A k) σ' → AgM σ σ' → post (some (vI (-10 - k))) σ') : Ev none d m_O_found 0 [some (vR 0 0), some (vI k)] [] σ (fun r s => ∃ z : Int32, r = some (vI z) ∧ post (some (vI z)) s) := by
  refine sg_O_found_0 ⟨_, rfl, ?_⟩
  refine K _ (h.putO (S := [0]) (hA1 (by decide)) (Off.sI Off.rf (by decide)) ?_) (AgM.off (S := [0]) (Off.sI Off.rf (by decide)))
  have h6 := h.2.2.2.2.2.1
  unfold cO fnd at *
  rw [setI_at, setI_at, sk_f (by decide), sk_f (by decide), sk_k (by decide)]
  exact ⟨h6.1, h6.2.1, rfl⟩
theorem m_met {A σ : ST} {k : Int32} {d : Nat} {post : Option AV → ST → Prop} (h : RepM A σ) (K : ∀ σ', RepM (fnd A k) σ' → AgC σ σ' → post (some (vI (-10 - k))) σ') : Ev none d m_M_met 0 [some (vR 11 0), some (vI k)] [] σ post := by
  refine sg_M_met_0 ?_
  refine K _ (h.putO (S := []) (F := [4]) (hA1 (by decide)) (OffM.sF OffM.rf (by decide)) ?_) (AgC.off (S := []) (F := [4]) (OffM.sF OffM.rf (by decide)))
  have h6 := h.2.2.2.2.2.1
  unfold mO fnd at *
  rw [setI_at, setI_at, sk_k (by decide), sk_k (by decide)]
  exact ⟨h6.1, h6.2.1, rfl⟩
theorem m_met' {A σ : ST} {k : Int32} {d : Nat} {post : Option AV → ST → Prop} (h : RepM A σ) (K : ∀ σ', RepM (fnd A k) σ' → AgC σ σ' → post (some (vI (-10 - k))) σ') : Ev none d m_M_met 0 [some (vR 11 0), some (vI k)] [] σ (fun r s => ∃ z : Int32, r = some (vI z) ∧ post (some (vI z)) s) :=
  m_met h (fun σ' h1 h2 => ⟨_, rfl, K σ' h1 h2⟩)
-- sheet
abbrev g_sheet (a1 a2 a3 : Int32) : Prop := rg a1 0 3 ∧ rg a2 0 2 ∧ a3.toInt ≤ 60
def hput (A : ST) (s : Nat) (a2 a3 : Int32) : ST := setA (setI (setI (setI A 9 s 0 0) 9 s 1 a2) 9 s 2 a3) 10 s (fun _ => 0)
def an_sheet (a1 a2 a3 : Int32) : Int32 := if g_sheet a1 a2 a3 then (if 0 ≤ a3 then a3 else -15) else -2
def st_sheet (A : ST) (a1 a2 a3 : Int32) : ST := if g_sheet a1 a2 a3 then (if 0 ≤ a3 then hput A a1.toNatClampNeg a2 a3 else fnd A 5) else A
theorem setA_k {σ : ST} {k i : Nat} {g : Nat → Int32} {a : Nat} (h : a ≠ k) : (setA σ k i g).1 a = σ.1 a := by
  funext b
  exact (setA_off σ k i g a b (fun q => h q.1)).1
theorem setA_if (σ : ST) (k i : Nat) (g : Nat → Int32) (b c : Nat) : (setA σ k i g).1 k b c = if b = i then g c else σ.1 k b c := by
  unfold setA
  by_cases h : b = i
  · simp [h]
  · simp [h]
theorem hput_A {A : ST} {s : Nat} {a2 a3 : Int32} : ∀ k, k ∉ ([9, 10] : List Nat) → (hput A s a2 a3).1 k = A.1 k := by
  intro k hk
  unfold hput
  have h9 : k ≠ 9 := fun q => hk (by rw [q]; decide)
  have h10 : k ≠ 10 := fun q => hk (by rw [q]; decide)
  rw [setA_k h10, sk_k h9, sk_k h9, sk_k h9]
theorem hput_9 {A : ST} {s : Nat} {a2 a3 : Int32} (b t : Nat) : (hput A s a2 a3).1 9 b t = if b = s ∧ t = 2 then a3 else if b = s ∧ t = 1 then a2 else if b = s ∧ t = 0 then 0 else A.1 9 b t := by
  unfold hput
  rw [setA_k (by decide), setI_if, setI_if, setI_if]
theorem hput_10 {A : ST} {s : Nat} {a2 a3 : Int32} (b j : Nat) : (hput A s a2 a3).1 10 b j = if b = s then 0 else A.1 10 b j := by
  unfold hput
  rw [setA_if]
  by_cases h : b = s
  · rw [if_pos h, if_pos h]
  · rw [if_neg h, if_neg h, sk_k (by decide), sk_k (by decide), sk_k (by decide)]
theorem wf_sheet {A : ST} {a1 a2 a3 : Int32} (h : Wf A) : Wf (st_sheet A a1 a2 a3) := by
  unfold st_sheet
  split
  next hg =>
    split
    next h0 =>
      refine h.putH hput_A ?_
      have h8 := h.2.2.2.2.2.2.2
      intro b hb
      obtain ⟨u0, u1, u2⟩ := h8 b hb
      rw [hput_9, hput_9, hput_9]
      have g3 : rg a3 0 60 := ⟨by rw [le_toInt] at h0; exact h0, hg.2.2⟩
      by_cases hbs : b = a1.toNatClampNeg
      · simp [hbs]
        exact ⟨hg.2.1, g3⟩
      · simp [hbs]
        exact ⟨u0, u1, u2⟩
    next => exact wf_fnd h
  next => exact h
theorem renew_loop {d s : Nat} (hs : s < 4) {post : Option AV → ST → Prop} : ∀ (m k : Nat) (σ : ST), k + m = 60 → (∀ σ', Off [41] σ σ' → (∀ b, b ≠ s → σ'.1 41 b = σ.1 41 b) → (∀ j, k ≤ j → j < 60 → σ'.1 41 s j = 0) → (∀ j, j < k → σ'.1 41 s j = σ.1 41 s j) → post none σ') → Ev none d m_H_renew 17 [some (vR 10 s), none, none, some (vI (nI k))] [] σ post
  | 0, k, σ, hk, K => by
    have e : k = 60 := by omega
    subst e
    exact sg_H_renew_17 hs ⟨fun _ => K σ Off.rf (fun _ _ => rfl) (fun j h1 h2 => by omega) (fun _ _ => rfl), fun q => absurd (Int32.le_refl _) q⟩
  | m + 1, k, σ, hk, K => by
    refine sg_H_renew_17 hs ⟨fun q => ?_, fun q => ?_⟩
    · exact absurd ((nI_leI (a := 60) (b := k) (by decide) (by omega)).mp q) (by omega)
    · refine ⟨vpin (by omega) (by decide), ?_⟩
      rw [nI_ix (by omega), nI_1]
      refine renew_loop hs m (k + 1) _ (by omega) (fun σ' h1 h2 h3 h4 => K σ' (Off.tr (Off.sI Off.rf (by decide)) h1) (fun b hb => by rw [h2 b hb, sk_i hb]) (fun j g1 g2 => ?_) (fun j g1 => ?_))
      · by_cases hj : j = k
        · subst hj
          rw [h4 j (by omega), setI_at]
        · exact h3 j (by omega) g2
      · rw [h4 j (by omega), sk_f (by omega)]
theorem m15 : (-10 : Int32) - 5 = -15 := by decide
theorem cs_sheet {A : ST} {a1 a2 a3 : Int32} {d : Nat} : CS m_O_sheet [some (vR 0 0), some (vI a1), some (vI a2), some (vI a3)] (d + 2) A (st_sheet A a1 a2 a3) (vI (an_sheet a1 a2 a3)) := by
  intro σ post h K
  unfold an_sheet st_sheet at K
  have hle : a3 ≤ 60 ↔ a3.toInt ≤ 60 := le_toInt
  by_cases hg : g_sheet a1 a2 a3
  · rw [if_pos hg, if_pos hg] at K
    refine sg_O_sheet_0 ⟨fun _ => ⟨fun _ => ⟨fun _ => ⟨fun g0 => ?_, fun g0 => ?_⟩, fun g => absurd (hle.mpr hg.2.2) g⟩, fun g => absurd ((wi 0 2).mpr hg.2.1) g⟩, fun g => absurd ((wi 0 3).mpr hg.1) g⟩
    · rw [if_pos g0, if_pos g0] at K
      obtain ⟨s, hs, rfl⟩ := rg_nI (n := 3) hg.1
      have g3 : rg a3 0 60 := ⟨by rw [le_toInt] at g0; exact g0, hg.2.2⟩
      refine ⟨vpin (show s < 4 by omega) (by decide), ?_⟩
      rw [nI_ix (by omega)] at *
      refine sg_H_renew_0 (by omega) (renew_loop (by omega) 60 0 _ (by omega) (fun σ' h1 h2 h3 h4 => ⟨rfl, ?_⟩))
      have ho : Off [10, 41] σ σ' := Off.tr (Off.sI (Off.sI (Off.sI Off.rf (by decide)) (by decide)) (by decide)) (h1.mono (by decide))
      refine K σ' (h.putH hput_A ho ?_) (AgM.off ho)
      have h8 := h.2.2.2.2.2.2.2
      intro b hb
      obtain ⟨u0, u1⟩ := h8 b hb
      have e10 : σ'.1 10 = _ := (h1 10 (by decide)).1
      rw [e10]
      unfold szN
      rw [hput_9, hput_9, hput_9]
      simp only [setI_if]
      by_cases hbs : b = s
      · subst hbs
        simp
        intro j hj
        rw [hput_10, if_pos rfl]
        obtain ⟨n, hn, rfl⟩ := rg_nI (n := 60) g3
        rw [nI_ix (by omega)] at hj
        exact h3 j (by omega) (by omega)
      · simp [hbs]
        refine ⟨u0, fun q => ?_⟩
        obtain ⟨v1, v2, v3⟩ := u1 q
        refine ⟨v1, v2, fun j hj => ?_⟩
        rw [hput_10, if_neg hbs, h2 b hbs, sk_k (by decide), sk_k (by decide), sk_k (by decide)]
        exact v3 j hj
    · rw [if_neg g0, if_neg g0] at K
      exact c_found h (fun σ' h1 h2 => K σ' h1 h2)
  · rw [if_neg hg, if_neg hg] at K
    have K' := K σ h (AgM.off (S := []) Off.rf)
    exact sg_O_sheet_0 ⟨fun g0 => ⟨fun g1 => ⟨fun g2 => absurd ⟨(wi 0 3).mp g0, (wi 0 2).mp g1, hle.mp g2⟩ hg, fun _ => K'⟩, fun _ => K'⟩, fun _ => K'⟩
theorem ix60 (s j : Nat) : (60 : Int32) * nI s + nI j = nI (60 * s + j) := by rw [show (60 : Int32) = nI 60 from rfl, pk_mul, nI_add]
theorem msheet_loop {d s n : Nat} (hs : s < 4) (hn : n ≤ 60) {post : Option AV → ST → Prop} : ∀ (m k : Nat) (σ : ST), k + m = n → (∀ σ', OffM [44] [] σ σ' → (∀ x, (x < 60 * s + k ∨ 60 * s + n ≤ x) → σ'.1 44 0 x = σ.1 44 0 x) → (∀ j, k ≤ j → j < n → σ'.1 44 0 (60 * s + j) = 0) → post (some (vI (nI n))) σ') → Ev none (d + 2) m_M_sheet 55 [some (vR 11 0), some (vI (nI s)), none, some (vI (nI n)), some (vI (nI k))] [] σ post
  | 0, k, σ, hk, K => by
    have e : k = n := by omega
    subst e
    exact sg_M_sheet_55 ⟨fun _ => K σ OffM.rf (fun _ _ => rfl) (fun j h1 h2 => by omega), fun q => absurd (Int32.le_refl _) q⟩
  | m + 1, k, σ, hk, K => by
    refine sg_M_sheet_55 ⟨fun q => ?_, fun q => ?_⟩
    · exact absurd ((nI_leI (a := n) (b := k) (by omega) (by omega)).mp q) (by omega)
    · rw [ix60, nI_ix (by omega), nI_1]
      refine ⟨vpin (by omega) (by decide), ?_⟩
      refine msheet_loop hs hn m (k + 1) _ (by omega) (fun σ' h1 h2 h3 => K σ' (OffM.tr (OffM.sI OffM.rf (by decide) (by decide)) h1) (fun x hx => ?_) (fun j g1 g2 => ?_))
      · rw [h2 x (by omega), sk_f (by omega)]
      · by_cases hj : j = k
        · subst hj
          rw [h2 (60 * s + j) (by omega), setI_at]
        · exact h3 j (by omega) g2
theorem ms_sheet {A : ST} {a1 a2 a3 : Int32} {d : Nat} (hw : Wf A) : MSp m_M_sheet [some (vR 11 0), some (vI a1), some (vI a2), some (vI a3), none] (d + 2) A (st_sheet A a1 a2 a3) (vI (an_sheet a1 a2 a3)) := by
  intro σ post h K
  unfold an_sheet st_sheet at K
  have hle : a3 ≤ 60 ↔ a3.toInt ≤ 60 := le_toInt
  by_cases hg : g_sheet a1 a2 a3
  · rw [if_pos hg, if_pos hg] at K
    refine sg_M_sheet_0 ⟨fun _ => ⟨fun _ => ⟨fun _ => ⟨fun g0 => ?_, fun g0 => ?_⟩, fun g => absurd (hle.mpr hg.2.2) g⟩, fun g => absurd ((mi 0 2).mpr hg.2.1) g⟩, fun g => absurd ((mi 0 3).mpr hg.1) g⟩
    · rw [if_pos g0, if_pos g0] at K
      obtain ⟨s, hs, rfl⟩ := rg_nI (n := 3) hg.1
      have g3 : rg a3 0 60 := ⟨by rw [le_toInt] at g0; exact g0, hg.2.2⟩
      obtain ⟨n, hn, rfl⟩ := rg_nI (n := 60) g3
      have hv := vpin (show s < 4 by omega) (by decide)
      refine ⟨hv, hv, ?_⟩
      rw [nI_ix (by omega)] at *
      refine msheet_loop (by omega) hn n 0 _ (by omega) (fun σ' h1 h2 h3 => ?_)
      have ho : OffM [42, 43, 44] [] σ σ' := OffM.tr (OffM.sI (OffM.sI OffM.rf (by decide) (by decide)) (by decide) (by decide)) (h1.mono (by decide) (by decide))
      refine K σ' (h.putH hput_A ho ?_) (AgC.off ho)
      have h8 := h.2.2.2.2.2.2.2
      have hw8 := hw.2.2.2.2.2.2.2
      intro b hb
      obtain ⟨u0, u1⟩ := h8 b hb
      have e42 := (h1.1 42 (by decide) (by decide)).1
      have e43 := (h1.1 43 (by decide) (by decide)).1
      rw [e42, e43]
      unfold szN
      rw [hput_9, hput_9, hput_9]
      simp only [setI_if, sk_k (show (42 : Nat) ≠ 43 by decide)]
      by_cases hbs : b = s
      · subst hbs
        simp
        intro j hj
        rw [hput_10, if_pos rfl]
        rw [nI_ix (by omega)] at hj
        exact h3 j (by omega) (by omega)
      · simp [hbs]
        refine ⟨u0, fun q => ?_⟩
        obtain ⟨v1, v2⟩ := u1 q
        refine ⟨by rw [sk_k (by decide)]; exact v1, fun j hj => ?_⟩
        have hj60 : j < 60 := by
          obtain ⟨-, -, w2⟩ := hw8 b hb
          obtain ⟨y, hy, ey⟩ := rg_nI (n := 60) w2
          rw [ey, nI_ix (by omega)] at hj
          omega
        rw [hput_10, if_neg hbs, h2 _ (by omega), sk_k (by decide), sk_k (by decide)]
        exact v2 j hj
    · rw [if_neg g0, if_neg g0] at K
      exact m_met' h (fun σ' h1 h2 => K σ' h1 h2)
  · rw [if_neg hg, if_neg hg] at K
    have K' := K σ h (AgC.off (S := []) (F := []) OffM.rf)
    exact sg_M_sheet_0 ⟨fun g0 => ⟨fun g1 => ⟨fun g2 => absurd ⟨(mi 0 3).mp g0, (mi 0 2).mp g1, hle.mp g2⟩ hg, fun _ => K'⟩, fun _ => K'⟩, fun _ => K'⟩
