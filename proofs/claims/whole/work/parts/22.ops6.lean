-- copy
abbrev g_copy (a1 a3 : Int32) : Prop := rg a1 0 3 ∧ rg a3 0 3
abbrev cin (A : ST) (s t : Nat) (a2 a4 a5 : Int32) : Prop := 0 ≤ a2.toInt ∧ 0 ≤ a4.toInt ∧ 0 ≤ a5.toInt ∧ a2.toInt + a5.toInt ≤ (szN A s : Int) ∧ a4.toInt + a5.toInt ≤ (szN A t : Int)
def cfd (A : ST) (s t : Nat) (a2 a4 a5 : Int32) : Int32 := if lost A s ∨ lost A t then 1 else if ¬ A.1 9 s 1 = A.1 9 t 1 then 4 else if cin A s t a2 a4 a5 then 0 else 2
def an_copy (A : ST) (a1 a2 a3 a4 a5 : Int32) : Int32 := if g_copy a1 a3 then (if cfd A a1.toNatClampNeg a3.toNatClampNeg a2 a4 a5 = 0 then 1 else -10 - cfd A a1.toNatClampNeg a3.toNatClampNeg a2 a4 a5) else -2
def cput (A : ST) (s t i j n : Nat) : ST := setA A 10 t (va_cpy (A.1 10 s) (A.1 10 t) i j n)
def st_copy (A : ST) (a1 a2 a3 a4 a5 : Int32) : ST := if g_copy a1 a3 then (if cfd A a1.toNatClampNeg a3.toNatClampNeg a2 a4 a5 = 0 then cput A a1.toNatClampNeg a3.toNatClampNeg a2.toNatClampNeg a4.toNatClampNeg a5.toNatClampNeg else fnd A (cfd A a1.toNatClampNeg a3.toNatClampNeg a2 a4 a5)) else A
theorem cput_A {A : ST} {s t i j n : Nat} : ∀ k, k ∉ ([9, 10] : List Nat) → (cput A s t i j n).1 k = A.1 k := by
  intro k hk
  unfold cput
  rw [setA_k (fun q => hk (by rw [q]; decide))]
theorem wf_copy {A : ST} {a1 a2 a3 a4 a5 : Int32} (h : Wf A) : Wf (st_copy A a1 a2 a3 a4 a5) := by
  unfold st_copy
  split
  · split
    · exact h.putH cput_A (wH_10 h.2.2.2.2.2.2.2 (setA_k (by decide)))
    · exact wf_fnd h
  · exact h
theorem cfd_no {A : ST} {s t : Nat} {a2 a4 a5 : Int32} (q : -10 - cfd A s t a2 a4 a5 = 0) : False := by
  unfold cfd at q
  split at q
  · exact absurd q (by decide)
  · split at q
    · exact absurd q (by decide)
    · split at q <;> exact absurd q (by decide)
theorem spansN {σ : ST} {s n : Nat} {a b : Int32} (hn : n ≤ 60) (e : σ.1 10 s 3 = nI n) : fp_H_spans σ s a b ↔ (0 ≤ a.toInt ∧ 0 ≤ b.toInt ∧ a.toInt + b.toInt ≤ (n : Int)) := by
  unfold fp_H_spans
  rw [e, Int32.not_lt, Int32.not_lt, Int32.not_lt, le_toInt, le_toInt, le_toInt]
  have z : (0 : Int32).toInt = 0 := rfl
  rw [z]
  constructor
  · rintro ⟨h1, h2, h3⟩
    have hb := Int32.toInt_lt b
    rw [sub_toInt, nI_toInt (by omega)] at h3
    · exact ⟨h1, h2, by omega⟩
    · rw [nI_toInt (by omega)]; omega
    · rw [nI_toInt (by omega)]; omega
  · rintro ⟨h1, h2, h3⟩
    refine ⟨h1, h2, ?_⟩
    have hb := Int32.toInt_lt b
    rw [sub_toInt, nI_toInt (by omega)]
    · omega
    · rw [nI_toInt (by omega)]; omega
    · rw [nI_toInt (by omega)]; omega
theorem cs_copy {A : ST} {a1 a2 a3 a4 a5 : Int32} {d : Nat} (hw : Wf A) : CS m_O_copy [some (vR 0 0), some (vI a1), some (vI a2), some (vI a3), some (vI a4), some (vI a5), none, none] (d + 2) A (st_copy A a1 a2 a3 a4 a5) (vI (an_copy A a1 a2 a3 a4 a5)) := by
  intro σ post h K
  unfold an_copy st_copy at K
  by_cases hg : g_copy a1 a3
  · rw [if_pos hg, if_pos hg] at K
    refine sg_O_copy_0 ⟨fun _ => ?_, fun g => absurd ⟨(wi 0 3).mpr hg.1, (wi 0 3).mpr hg.2⟩ g⟩
    obtain ⟨s, hs, rfl⟩ := rg_nI (n := 3) hg.1
    obtain ⟨t, ht, rfl⟩ := rg_nI (n := 3) hg.2
    have hv := vpin (show s < 4 by omega) (by decide)
    have hv2 := vpin (show t < 4 by omega) (by decide)
    rw [nI_ix (show s < 2 ^ 31 by omega), nI_ix (show t < 2 ^ 31 by omega)] at *
    have h8 := h.2.2.2.2.2.2.2
    obtain ⟨u0, u1⟩ := h8 s (by omega)
    obtain ⟨x0, x1⟩ := h8 t (by omega)
    obtain ⟨w0, -, -⟩ := hw.2.2.2.2.2.2.2 s (by omega)
    obtain ⟨y0, -, -⟩ := hw.2.2.2.2.2.2.2 t (by omega)
    obtain ⟨zs, zs2⟩ := wH_size hw (show s < 4 by omega)
    obtain ⟨zt, zt2⟩ := wH_size hw (show t < 4 by omega)
    unfold fs_H_isLost fn_H_isLost fn_H_form
    rw [u0, x0]
    refine ⟨hv, hv2, w0, fun g0 => ⟨y0, fun g1 => ?_, fun g1 => ?_⟩, fun g0 => ?_⟩
    · obtain ⟨v1, v2, v3⟩ := u1 g0
      obtain ⟨r1, r2, r3⟩ := x1 g1
      have hnl : ¬ (lost A s ∨ lost A t) := by
        rintro (q | q)
        · exact q g0
        · exact q g1
      rw [v1, r1]
      refine ⟨fun g2 => ?_, fun g2 => ?_⟩
      · have hs1 := spansN (a := a2) (b := a5) zs2 (v2.trans zs)
        have hs2 := spansN (a := a4) (b := a5) zt2 (r2.trans zt)
        refine ⟨fun g3 => ?_, fun g3 => ?_⟩
        · obtain ⟨p1, p2, p3⟩ := hs1.mp g3.1
          obtain ⟨p4, p5, p6⟩ := hs2.mp g3.2
          have e0 : cfd A s t a2 a4 a5 = 0 := by
            unfold cfd
            rw [if_neg hnl, if_neg (fun q => q g2), if_pos ⟨p1, p4, p2, p3, p6⟩]
          rw [if_pos e0, if_pos e0] at K
          obtain ⟨i, hi, rfl⟩ := rg_nI (n := 60) (a := a2) ⟨p1, by omega⟩
          obtain ⟨j, hj, rfl⟩ := rg_nI (n := 60) (a := a4) ⟨p4, by omega⟩
          obtain ⟨n, hn, rfl⟩ := rg_nI (n := 60) (a := a5) ⟨p2, by omega⟩
          rw [nI_toInt (by omega), nI_toInt (by omega)] at p3 p6
          rw [nI_ix (show i < 2 ^ 31 by omega), nI_ix (show j < 2 ^ 31 by omega), nI_ix (show n < 2 ^ 31 by omega)] at K
          refine sg_H_takeFrom_0 (by omega) (by omega) ?_
          rw [nI_ix (show i < 2 ^ 31 by omega), nI_ix (show j < 2 ^ 31 by omega), nI_ix (show n < 2 ^ 31 by omega)]
          refine ⟨nI_pos (by omega), nI_pos (by omega), nI_pos (by omega), by omega, by omega, rfl, ?_⟩
          have ho : Off [41] σ (setA σ 41 t (va_cpy (σ.1 41 s) (σ.1 41 t) i j n)) := Off.sA Off.rf (by decide)
          refine K _ (h.putH cput_A ho ?_) (AgM.off ho)
          intro b hb
          obtain ⟨t0, t1⟩ := h8 b hb
          unfold szN cput at *
          rw [setA_k (by decide), setA_k (by decide)]
          refine ⟨t0, fun q => ?_⟩
          obtain ⟨k1, k2, k3⟩ := t1 q
          refine ⟨k1, k2, fun x hx => ?_⟩
          rw [setA_if, setA_if]
          by_cases hbt : b = t
          · subst hbt
            rw [if_pos rfl, if_pos rfl]
            unfold va_cpy
            by_cases hx2 : j ≤ x ∧ x < j + n
            · rw [if_pos hx2, if_pos hx2]
              exact v3 _ (by omega)
            · rw [if_neg hx2, if_neg hx2]
              exact k3 x hx
          · rw [if_neg hbt, if_neg hbt]
            exact k3 x hx
        · have e2 : cfd A s t a2 a4 a5 = 2 := by
            unfold cfd
            rw [if_neg hnl, if_neg (fun q => q g2), if_neg]
            rintro ⟨p1, p4, p2, p3, p6⟩
            exact g3 ⟨hs1.mpr ⟨p1, p2, p3⟩, hs2.mpr ⟨p4, p2, p6⟩⟩
          rw [e2, if_neg (by decide), if_neg (by decide)] at K
          exact c_found h (fun σ' h1 h2 => K σ' h1 h2)
      · have e4 : cfd A s t a2 a4 a5 = 4 := by
          unfold cfd
          rw [if_neg hnl, if_pos g2]
        rw [e4, if_neg (by decide), if_neg (by decide)] at K
        exact c_found h (fun σ' h1 h2 => K σ' h1 h2)
    · have e1 : cfd A s t a2 a4 a5 = 1 := by
        unfold cfd
        rw [if_pos (Or.inr g1)]
      rw [e1, if_neg (by decide), if_neg (by decide)] at K
      exact c_found h (fun σ' h1 h2 => K σ' h1 h2)
    · have e1 : cfd A s t a2 a4 a5 = 1 := by
        unfold cfd
        rw [if_pos (Or.inl g0)]
      rw [e1, if_neg (by decide), if_neg (by decide)] at K
      exact c_found h (fun σ' h1 h2 => K σ' h1 h2)
  · rw [if_neg hg, if_neg hg] at K
    have K' := K σ h (AgM.off (S := []) Off.rf)
    exact sg_O_copy_0 ⟨fun g0 => absurd ⟨(wi 0 3).mp g0.1, (wi 0 3).mp g0.2⟩ hg, fun _ => K'⟩
theorem ix60b (s i a : Nat) : (60 : Int32) * nI s + nI i + nI a = nI (60 * s + i + a) := by rw [ix60, nI_add]
theorem mcopy2 {d t j n : Nat} (ht : t < 4) (hjn : j + n ≤ 60) {post : Option AV → ST → Prop} : ∀ (m k : Nat) (σ : ST), k + m = n → (∀ σ', OffM [44] [] σ σ' → (∀ x, (x < 60 * t + j + k ∨ 60 * t + j + n ≤ x) → σ'.1 44 0 x = σ.1 44 0 x) → (∀ a, k ≤ a → a < n → σ'.1 44 0 (60 * t + j + a) = σ.1 45 0 a) → post (some (vI 1)) σ') → Ev none (d + 2) m_M_copy 157 [some (vR 11 0), none, none, some (vI (nI t)), some (vI (nI j)), some (vI (nI n)), some (vI (nI k))] [] σ post
  | 0, k, σ, hk, K => by
    have e : k = n := by omega
    subst e
    exact sg_M_copy_157 ⟨fun _ => K σ OffM.rf (fun _ _ => rfl) (fun j h1 h2 => by omega), fun q => absurd (Int32.le_refl _) q⟩
  | m + 1, k, σ, hk, K => by
    refine sg_M_copy_157 ⟨fun q => ?_, fun q => ?_⟩
    · exact absurd ((nI_leI (a := n) (b := k) (by omega) (by omega)).mp q) (by omega)
    · rw [ix60b, nI_ix (by omega), nI_ix (by omega), nI_1]
      refine ⟨vpin (by omega) (by decide), vpin (by omega) (by decide), ?_⟩
      refine mcopy2 ht hjn m (k + 1) _ (by omega) (fun σ' h1 h2 h3 => K σ' (OffM.tr (OffM.sI OffM.rf (by decide) (by decide)) h1) (fun x hx => ?_) (fun a g1 g2 => ?_))
      · rw [h2 x (by omega), sk_f (by omega)]
      · by_cases ha : a = k
        · subst ha
          rw [h2 (60 * t + j + a) (by omega), setI_at]
        · rw [h3 a (by omega) g2, sk_k (by decide)]
theorem mcopy1 {d s t i j n : Nat} (hs : s < 4) (hin : i + n ≤ 60) {post : Option AV → ST → Prop} : ∀ (m k : Nat) (σ : ST), k + m = n → (∀ σ', OffM [45] [] σ σ' → (∀ a, a < k → σ'.1 45 0 a = σ.1 45 0 a) → (∀ a, k ≤ a → a < n → σ'.1 45 0 a = σ.1 44 0 (60 * s + i + a)) → Ev none (d + 2) m_M_copy 157 [some (vR 11 0), none, none, some (vI (nI t)), some (vI (nI j)), some (vI (nI n)), some (vI (nI 0))] [] σ' post) → Ev none (d + 2) m_M_copy 120 [some (vR 11 0), some (vI (nI s)), some (vI (nI i)), some (vI (nI t)), some (vI (nI j)), some (vI (nI n)), some (vI (nI k))] [] σ post
  | 0, k, σ, hk, K => by
    have e : k = n := by omega
    subst e
    exact sg_M_copy_120 ⟨fun _ => K σ OffM.rf (fun _ _ => rfl) (fun j h1 h2 => by omega), fun q => absurd (Int32.le_refl _) q⟩
  | m + 1, k, σ, hk, K => by
    refine sg_M_copy_120 ⟨fun q => ?_, fun q => ?_⟩
    · exact absurd ((nI_leI (a := n) (b := k) (by omega) (by omega)).mp q) (by omega)
    · rw [ix60b, nI_ix (by omega), nI_ix (by omega), nI_1]
      refine ⟨vpin (by omega) (by decide), vpin (by omega) (by decide), ?_⟩
      refine mcopy1 hs hin m (k + 1) _ (by omega) (fun σ' h1 h2 h3 => K σ' (OffM.tr (OffM.sI OffM.rf (by decide) (by decide)) h1) (fun a ha => ?_) (fun a g1 g2 => ?_))
      · rw [h2 a (by omega), sk_f (by omega)]
      · by_cases ha : a = k
        · subst ha
          rw [h2 a (by omega), setI_at]
        · rw [h3 a (by omega) g2, sk_k (by decide)]
theorem add64 {a b : Int32} : ((Int32.toInt64 a) + (Int32.toInt64 b)).toInt = a.toInt + b.toInt := by
  rw [Int64.toInt_add, Int32.toInt_toInt64, Int32.toInt_toInt64]
  have h1 := Int32.le_toInt a
  have h2 := Int32.toInt_lt a
  have h3 := Int32.le_toInt b
  have h4 := Int32.toInt_lt b
  exact Int.bmod_eq_of_le (by omega) (by omega)
theorem ms_copy {A : ST} {a1 a2 a3 a4 a5 : Int32} {d : Nat} (hw : Wf A) : MSp m_M_copy [some (vR 11 0), some (vI a1), some (vI a2), some (vI a3), some (vI a4), some (vI a5), none] (d + 2) A (st_copy A a1 a2 a3 a4 a5) (vI (an_copy A a1 a2 a3 a4 a5)) := by
  intro σ post h K
  unfold an_copy st_copy at K
  by_cases hg : g_copy a1 a3
  · rw [if_pos hg, if_pos hg] at K
    refine sg_M_copy_0 ⟨fun _ => ⟨fun _ => ?_, fun g => absurd ((mi 0 3).mpr hg.2) g⟩, fun g => absurd ((mi 0 3).mpr hg.1) g⟩
    obtain ⟨s, hs, rfl⟩ := rg_nI (n := 3) hg.1
    obtain ⟨t, ht, rfl⟩ := rg_nI (n := 3) hg.2
    have hv := vpin (show s < 4 by omega) (by decide)
    have hv2 := vpin (show t < 4 by omega) (by decide)
    rw [nI_ix (show s < 2 ^ 31 by omega), nI_ix (show t < 2 ^ 31 by omega)] at *
    have h8 := h.2.2.2.2.2.2.2
    obtain ⟨u0, u1⟩ := h8 s (by omega)
    obtain ⟨x0, x1⟩ := h8 t (by omega)
    obtain ⟨zs, zs2⟩ := wH_size hw (show s < 4 by omega)
    obtain ⟨zt, zt2⟩ := wH_size hw (show t < 4 by omega)
    have ls := m_lost hw (show s < 4 by omega)
    have lt := m_lost hw (show t < 4 by omega)
    rw [u0, x0]
    refine ⟨hv, fun g0 => ?_, fun g0 => ⟨hv2, fun g1 => ?_, fun g1 => ?_⟩⟩
    · have l0 : lost A s := fun q => absurd (ls.mpr q) (Int32.not_le.mpr g0)
      have e1 : cfd A s t a2 a4 a5 = 1 := by
        unfold cfd
        rw [if_pos (Or.inl l0)]
      rw [e1, if_neg (by decide), if_neg (by decide)] at K
      exact m_met' h (fun σ' h1 h2 => K σ' h1 h2)
    · have l0 : A.1 9 s 0 = 0 := ls.mp (Int32.not_lt.mp g0)
      have l1 : A.1 9 t 0 = 0 := lt.mp g1
      obtain ⟨v2, v3⟩ := u1 l0
      obtain ⟨r2, r3⟩ := x1 l1
      have hnl : ¬ (lost A s ∨ lost A t) := by
        rintro (q | q)
        · exact q l0
        · exact q l1
      rw [if_pos l0, if_pos l1, v2, r2, zs, zt]
      refine ⟨hv, hv2, fun g2 => ?_, fun g2 => ?_⟩
      · have hiff : (¬ (a2 < 0) ∧ (¬ (a4 < 0) ∧ (¬ (a5 < 0) ∧ (¬ ((Int32.toInt64 (nI (szN A s))) < ((Int32.toInt64 a2) + (Int32.toInt64 a5))) ∧ (((Int32.toInt64 a4) + (Int32.toInt64 a5)) ≤ (Int32.toInt64 (nI (szN A t)))))))) ↔ cin A s t a2 a4 a5 := by
          rw [Int32.not_lt, Int32.not_lt, Int32.not_lt, Int64.not_lt, le_toInt, le_toInt, le_toInt, Int64.le_iff_toInt_le, Int64.le_iff_toInt_le, add64, add64, Int32.toInt_toInt64, Int32.toInt_toInt64, nI_toInt (by omega), nI_toInt (by omega)]
          exact Iff.rfl
        refine ⟨⟨fun _ => trivial, fun _ => ⟨fun _ => trivial, fun _ => ⟨fun _ => trivial, fun _ => ⟨hv, fun _ => trivial, fun _ => hv2⟩⟩⟩⟩, fun g3 => ?_, fun g3 => ?_⟩
        · obtain ⟨p1, p4, p2, p3, p6⟩ := hiff.mp g3
          have e0 : cfd A s t a2 a4 a5 = 0 := by
            unfold cfd
            rw [if_neg hnl, if_neg (fun q => q g2), if_pos ⟨p1, p4, p2, p3, p6⟩]
          rw [if_pos e0, if_pos e0] at K
          obtain ⟨i, hi, rfl⟩ := rg_nI (n := 60) (a := a2) ⟨p1, by omega⟩
          obtain ⟨j, hj, rfl⟩ := rg_nI (n := 60) (a := a4) ⟨p4, by omega⟩
          obtain ⟨n, hn, rfl⟩ := rg_nI (n := 60) (a := a5) ⟨p2, by omega⟩
          rw [nI_toInt (by omega), nI_toInt (by omega)] at p3 p6
          rw [nI_ix (show i < 2 ^ 31 by omega), nI_ix (show j < 2 ^ 31 by omega), nI_ix (show n < 2 ^ 31 by omega)] at K
          refine mcopy1 (by omega) (by omega) n 0 σ (by omega) (fun σ1 m1 m2 m3 => mcopy2 (by omega) (by omega) n 0 σ1 (by omega) (fun σ2 n1 n2 n3 => ?_))
          have ho : OffM [44, 45] [] σ σ2 := OffM.tr (m1.mono (by decide) (by decide)) (n1.mono (by decide) (by decide))
          refine K _ (h.putH cput_A ho ?_) (AgC.off ho)
          intro b hb
          obtain ⟨t0, t1⟩ := h8 b hb
          obtain ⟨-, zb⟩ := wH_size hw hb
          unfold szN cput at *
          rw [setA_k (by decide), (ho.1 42 (by decide) (by decide)).1, (ho.1 43 (by decide) (by decide)).1]
          refine ⟨t0, fun q => ?_⟩
          obtain ⟨k2, k3⟩ := t1 q
          refine ⟨k2, fun x hx => ?_⟩
          have e44 := (m1.1 44 (by decide) (by decide)).1
          rw [setA_if]
          by_cases hbt : b = t
          · subst hbt
            rw [if_pos rfl]
            unfold va_cpy
            by_cases hx2 : j ≤ x ∧ x < j + n
            · rw [if_pos hx2]
              have := n3 (x - j) (by omega) (by omega)
              rw [show 60 * b + j + (x - j) = 60 * b + x by omega] at this
              rw [this, m3 (x - j) (by omega) (by omega), show 60 * s + i + (x - j) = 60 * s + (i + (x - j)) by omega]
              exact v3 _ (by omega)
            · rw [if_neg hx2, n2 _ (by omega), e44]
              exact k3 x hx
          · rw [if_neg hbt, n2 _ (by omega), e44]
            exact k3 x hx
        · have e2 : cfd A s t a2 a4 a5 = 2 := by
            unfold cfd
            rw [if_neg hnl, if_neg (fun q => q g2), if_neg (fun q => g3 (hiff.mpr q))]
          rw [e2, if_neg (by decide), if_neg (by decide)] at K
          exact m_met' h (fun σ' h1 h2 => K σ' h1 h2)
      · have e4 : cfd A s t a2 a4 a5 = 4 := by
          unfold cfd
          rw [if_neg hnl, if_pos g2]
        rw [e4, if_neg (by decide), if_neg (by decide)] at K
        exact m_met' h (fun σ' h1 h2 => K σ' h1 h2)
    · have l1 : lost A t := fun q => g1 (lt.mpr q)
      have e1 : cfd A s t a2 a4 a5 = 1 := by
        unfold cfd
        rw [if_pos (Or.inr l1)]
      rw [e1, if_neg (by decide), if_neg (by decide)] at K
      exact m_met' h (fun σ' h1 h2 => K σ' h1 h2)
  · rw [if_neg hg, if_neg hg] at K
    have K' := K σ h (AgC.off (S := []) (F := []) OffM.rf)
    exact sg_M_copy_0 ⟨fun g0 => ⟨fun g1 => absurd ⟨(mi 0 3).mp g0, (mi 0 3).mp g1⟩ hg, fun _ => K'⟩, fun _ => K'⟩
