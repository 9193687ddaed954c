-- write, read
def wput (A : ST) (s r c : Nat) : ST := setA A 10 s (fun j => if j < c then nrw (A.1 9 s 1) (tm A r j) else A.1 10 s j)
theorem wput_A {A : ST} {s r c : Nat} : ∀ k, k ≠ 10 → (wput A s r c).1 k = A.1 k := fun k hk => setA_k hk
theorem wput_A' {A : ST} {s r c : Nat} : ∀ k, k ∉ ([9, 10] : List Nat) → (wput A s r c).1 k = A.1 k := fun k hk => setA_k (fun q => hk (by rw [q]; decide))
theorem wput_0 {A : ST} {s r : Nat} : wput A s r 0 = A := by
  refine Prod.ext (funext fun a => ?_) rfl
  by_cases h : a = 10
  · subst h
    funext b c
    unfold wput
    rw [setA_if]
    by_cases hb : b = s
    · rw [if_pos hb, hb]
      exact if_neg (by omega)
    · rw [if_neg hb]
  · exact setA_k h
theorem wput_10 {A : ST} {s r c : Nat} (b j : Nat) : (wput A s r c).1 10 b j = if b = s then (if j < c then nrw (A.1 9 s 1) (tm A r j) else A.1 10 s j) else A.1 10 b j := setA_if _ _ _ _ _ _
theorem wf_wput {A : ST} {s r c : Nat} (h : Wf A) : Wf (wput A s r c) := h.putH wput_A' (wH_10 h.2.2.2.2.2.2.2 (wput_A 9 (by decide)))
theorem tm_k {A A' : ST} (h0 : A'.1 0 = A.1 0) (h1 : A'.1 1 = A.1 1) (h2 : A'.1 2 = A.1 2) (h3 : A'.1 3 = A.1 3) (r c : Nat) : tm A' r c = tm A r c := by
  unfold tm tmBy kC lC
  rw [h1, h2, h3]
theorem nC_k {A A' : ST} (h0 : A'.1 0 = A.1 0) (h1 : A'.1 1 = A.1 1) : nC A' = nC A := by
  unfold nC sN
  rw [h0, h1]
theorem tm_w {A : ST} {s r r' c x : Nat} : tm (wput A s r c) r' x = tm A r' x := tm_k (wput_A _ (by decide)) (wput_A _ (by decide)) (wput_A _ (by decide)) (wput_A _ (by decide)) _ _
theorem nC_w {A : ST} {s r c : Nat} : nC (wput A s r c) = nC A := nC_k (wput_A _ (by decide)) (wput_A _ (by decide))
theorem szN_w {A : ST} {s r c b : Nat} : szN (wput A s r c) b = szN A b := by
  unfold szN
  rw [wput_A 9 (by decide)]
abbrev g_write (a1 a2 : Int32) : Prop := rg a1 0 5 ∧ rg a2 0 3
def wmin (A : ST) (s : Nat) : Nat := min (nC A) (szN A s)
def an_write (A : ST) (a1 a2 : Int32) : Int32 := if g_write a1 a2 then (if lost A a2.toNatClampNeg then -11 else nI (wmin A a2.toNatClampNeg)) else -2
def st_write (A : ST) (a1 a2 : Int32) : ST := if g_write a1 a2 then (if lost A a2.toNatClampNeg then fnd A 1 else wput A a2.toNatClampNeg a1.toNatClampNeg (wmin A a2.toNatClampNeg)) else A
theorem wf_write {A : ST} {a1 a2 : Int32} (h : Wf A) : Wf (st_write A a1 a2) := by
  unfold st_write
  split
  · split
    · exact wf_fnd h
    · exact wf_wput h
  · exact h
theorem m11 : (-10 : Int32) - 1 = -11 := by decide
theorem imin_nI {a b : Nat} (ha : a < 2 ^ 31) (hb : b < 2 ^ 31) : imin (nI a) (nI b) = nI (min a b) := by
  unfold imin
  by_cases h : b < a
  · rw [if_pos ((nI_ltI hb ha).mpr h), show min a b = b by omega]
  · rw [if_neg (fun q => h ((nI_ltI hb ha).mp q)), show min a b = a by omega]
theorem imax_nI {a b : Nat} (ha : a < 2 ^ 31) (hb : b < 2 ^ 31) : imax (nI a) (nI b) = nI (max a b) := by
  unfold imax
  by_cases h : a < b
  · rw [if_pos ((nI_ltI ha hb).mpr h), show max a b = b by omega]
  · rw [if_neg (fun q => h ((nI_ltI ha hb).mp q)), show max a b = a by omega]
theorem cs_write {A : ST} {a1 a2 : Int32} {d : Nat} (hw : Wf A) : CS m_O_write [some (vR 0 0), some (vI a1), some (vI a2), none, none, none] (d + 3) A (st_write A a1 a2) (vI (an_write A a1 a2)) := by
  intro σ post h K
  unfold an_write st_write at K
  have h8 := nC_le hw
  by_cases hg : g_write a1 a2
  · rw [if_pos hg, if_pos hg] at K
    refine sg_O_write_0 ⟨fun _ => ?_, fun g => absurd ⟨(wi 0 5).mpr hg.1, (wi 0 3).mpr hg.2⟩ g⟩
    obtain ⟨r, hr, rfl⟩ := rg_nI (n := 5) hg.1
    obtain ⟨s, hs, rfl⟩ := rg_nI (n := 3) hg.2
    have hH := h.2.2.2.2.2.2.2 s (by omega)
    have hwH := hw.2.2.2.2.2.2.2 s (by omega)
    obtain ⟨hz1, hz2⟩ := wH_size hw (show s < 4 by omega)
    rw [nI_ix (show r < 2 ^ 31 by omega), nI_ix (show s < 2 ^ 31 by omega)] at *
    refine ⟨vpin (by omega) (by decide), ?_, ?_⟩
    · unfold fs_H_isLost
      rw [hH.1]
      exact hwH.1
    unfold fn_H_isLost
    rw [hH.1]
    refine ⟨fun q => ?_, fun q => ?_⟩
    · rw [if_neg (fun z => z q), if_neg (fun z => z q)] at K
      obtain ⟨f1, f2, f3⟩ := hH.2 q
      unfold fn_B_chapters fn_H_size
      rw [h.1.2.1, f2, hz1, imin_nI (by omega) (by omega)]
      have hm : wmin A s ≤ 8 := by unfold wmin; omega
      have hm2 : wmin A s ≤ nC A ∧ wmin A s ≤ szN A s := by unfold wmin; omega
      show Ev none (d + 3) m_O_write 56 [_, _, _, _, some (vI (nI (wmin A s))), _] [] σ post
      refine upto (n := wmin A s) (P := fun c => ∀ σc, RepC (wput A s r c) σc → AgM σ σc → Ev none (d + 3) m_O_write 56 [some (vR 0 0), some (vI (nI r)), none, some (vR 10 s), some (vI (nI (wmin A s))), some (vI (nI c))] [] σc post) ?_ ?_ σ (by rw [wput_0]; exact h) (AgM.off (S := []) Off.rf)
      · intro σc hc hag
        exact sg_O_write_56 (by omega) ⟨fun _ => K σc hc hag, fun q => absurd (Int32.le_refl _) q⟩
      · intro c hcn ih σc hc hag
        obtain ⟨e1, e2⟩ := c_tm (wf_wput hw) hc (show r < 6 by omega) (show c < nC (wput A s r c) by rw [nC_w]; omega)
        refine sg_O_write_56 (by omega) ⟨fun q => absurd ((nI_leI (by omega) (by omega)).mp q) (by omega), fun _ => ⟨e2, sg_H_put_0 (by omega) ⟨vpin (by omega) (by decide), rfl, ?_⟩⟩⟩
        rw [e1, nI_ix (by omega), nI_1, tm_w]
        have hHc := hc.2.2.2.2.2.2.2
        have e3 : fn_H_narrow σc s (tm A r c) = nrw (A.1 9 s 1) (tm A r c) := by
          have := (hHc s (by omega)).2 (by rw [wput_A 9 (by decide)]; exact q)
          unfold fn_H_narrow nrw
          rw [this.1, wput_A 9 (by decide)]
        rw [e3]
        have ho : Off [41] σc (setI σc 41 s c (nrw (A.1 9 s 1) (tm A r c))) := Off.sI Off.rf (by decide)
        have agr : AgM σ (setI σc 41 s c (nrw (A.1 9 s 1) (tm A r c))) := fun k hk => by
          obtain ⟨u1, u2⟩ := (AgM.off ho (by decide)) k hk
          exact ⟨u1.trans (hag k hk).1, u2.trans (hag k hk).2⟩
        refine ih _ (hc.putH (S := [41]) (fun k hk => by rw [wput_A' k hk, wput_A' k hk]) ho ?_) agr
        intro b hb
        obtain ⟨u1, u2⟩ := hHc b hb
        rw [wput_A 9 (by decide)] at *
        rw [sk_k (by decide)]
        refine ⟨u1, fun q => ?_⟩
        obtain ⟨v1, v2, v3⟩ := u2 q
        refine ⟨v1, v2, fun j hj => ?_⟩
        rw [szN_w] at *
        have v4 := v3 j hj
        rw [wput_10] at *
        rw [setI_if, v4]
        by_cases hbs : b = s
        · subst hbs
          rw [if_pos rfl, if_pos rfl]
          by_cases hjc : j = c
          · subst hjc
            rw [if_pos ⟨rfl, rfl⟩, if_pos (by omega)]
          · rw [if_neg (fun q => hjc q.2)]
            by_cases hl : j < c
            · rw [if_pos hl, if_pos (by omega)]
            · rw [if_neg hl, if_neg (by omega)]
        · rw [if_neg hbs, if_neg (fun q => hbs q.1), if_neg hbs]
    · rw [if_pos q, if_pos q] at K
      exact c_found h (fun σ' h1 h2 => K σ' h1 h2)
  · rw [if_neg hg, if_neg hg] at K
    exact sg_O_write_0 ⟨fun g => absurd ⟨(wi 0 5).mp g.1, (wi 0 3).mp g.2⟩ hg, fun _ => K σ h (AgM.off (S := []) Off.rf)⟩
theorem Psd.of {A A' σ σ' : ST} (h : Psd A σ) (h0 : A'.1 0 = A.1 0) (h1 : A'.1 1 = A.1 1) (s0 : σ'.1 11 0 8 = σ.1 11 0 8) (s1 : σ'.1 47 = σ.1 47) (s2 : σ'.1 48 = σ.1 48) : Psd A' σ' := by
  unfold Psd at *
  rw [nC_k h0 h1, s0, s1, s2]
  unfold kC lC at *
  rw [h1]
  exact h
theorem ms_write {A : ST} {a1 a2 : Int32} {d : Nat} (hw : Wf A) : MSp m_M_write [some (vR 11 0), some (vI a1), some (vI a2), none, none] (d + 3) A (st_write A a1 a2) (vI (an_write A a1 a2)) := by
  intro σ post h K
  unfold an_write st_write at K
  have h8 := nC_le hw
  by_cases hg : g_write a1 a2
  · rw [if_pos hg, if_pos hg] at K
    refine sg_M_write_0 ⟨fun _ => ⟨fun _ => ?_, fun g => absurd ((mi 0 3).mpr hg.2) g⟩, fun g => absurd ((mi 0 5).mpr hg.1) g⟩
    obtain ⟨r, hr, rfl⟩ := rg_nI (n := 5) hg.1
    obtain ⟨s, hs, rfl⟩ := rg_nI (n := 3) hg.2
    have hH := h.2.2.2.2.2.2.2 s (by omega)
    obtain ⟨hz1, hz2⟩ := wH_size hw (show s < 4 by omega)
    rw [nI_ix (show r < 2 ^ 31 by omega), nI_ix (show s < 2 ^ 31 by omega)] at *
    refine ⟨vpin (by omega) (by decide), ?_⟩
    rw [hH.1, m_lost hw (by omega)]
    refine ⟨fun q => ?_, fun q => ?_⟩
    · rw [if_neg (fun z => z q), if_neg (fun z => z q)] at K
      refine m_reads hw h (fun σ1 h1 h2 h3 => ⟨_, rfl, vpin (by omega) (by decide), ?_⟩)
      have hH1 := h1.2.2.2.2.2.2.2 s (by omega)
      rw [(hH1.2 q).1, h2.1, hz1]
      refine ⟨⟨fun _ => trivial, fun _ => vpin (by omega) (by decide)⟩, ?_⟩
      intro z hz
      have hz' : z = nI (wmin A s) := by
        rw [hz]
        unfold wmin
        by_cases hl : nC A ≤ szN A s
        · rw [if_pos ((nI_leI (by omega) (by omega)).mpr hl), show min (nC A) (szN A s) = nC A by omega]
        · rw [if_neg (fun q => hl ((nI_leI (by omega) (by omega)).mp q)), show min (nC A) (szN A s) = szN A s by omega]
      subst hz'
      have hm : wmin A s ≤ 8 := by unfold wmin; omega
      have hm2 : wmin A s ≤ nC A ∧ wmin A s ≤ szN A s := by unfold wmin; omega
      refine upto (n := wmin A s) (P := fun c => ∀ σc, RepM (wput A s r c) σc → Psd A σc → AgC σ σc → Ev none (d + 3) m_M_write 67 [some (vR 11 0), some (vI (nI r)), some (vI (nI s)), some (vI (nI (wmin A s))), some (vI (nI c))] [] σc post) ?_ ?_ σ1 (by rw [wput_0]; exact h1) h2 (AgC.off h3)
      · intro σc hc hp hag
        exact sg_M_write_67 ⟨fun _ => K σc hc hag, fun q => absurd (Int32.le_refl _) q⟩
      · intro c hcn ih σc hc hp hag
        have hp' : Psd (wput A s r c) σc := hp.of (wput_A _ (by decide)) (wput_A _ (by decide)) rfl rfl rfl
        obtain ⟨e1, e2⟩ := m_tm (wf_wput hw) hc hp' (show r < 6 by omega) (show c < nC (wput A s r c) by rw [nC_w]; omega)
        have ei : (60 : Int32) * nI s + nI c = nI (60 * s + c) := by rw [show (60 : Int32) = nI 60 from rfl, pk_mul, nI_add]
        refine sg_M_write_67 ⟨fun q => absurd ((nI_leI (by omega) (by omega)).mp q) (by omega), fun _ => ⟨vpin (by omega) (by decide), e2, ?_, ?_⟩⟩
        · rw [ei]; exact vpin (by omega) (by decide)
        rw [e1, ei, nI_ix (show 60 * s + c < 2 ^ 31 by omega), nI_ix (show s < 2 ^ 31 by omega), nI_1, tm_w]
        have hHc := hc.2.2.2.2.2.2.2
        have e3 : fn_M_cut σc (σc.1 42 0 s) (tm A r c) = nrw (A.1 9 s 1) (tm A r c) := by
          rw [(hHc s (by omega)).1, wput_A 9 (by decide), if_pos q]
          rfl
        rw [e3]
        have ho : OffM [44] [] σc (setI σc 44 0 (60 * s + c) (nrw (A.1 9 s 1) (tm A r c))) := OffM.sI OffM.rf (by decide) (by decide)
        have agr : AgC σ (setI σc 44 0 (60 * s + c) (nrw (A.1 9 s 1) (tm A r c))) := fun k hk => by
          obtain ⟨u1, u2⟩ := (AgC.off ho (by decide)) k hk
          exact ⟨u1.trans (hag k hk).1, u2.trans (hag k hk).2⟩
        refine ih _ (hc.putH (S := [44]) (F := []) (fun k hk => by rw [wput_A' k hk, wput_A' k hk]) ho ?_) (hp.of rfl rfl (by rw [sk_k (by decide)]) (by rw [sk_k (by decide)]) (by rw [sk_k (by decide)])) agr
        intro b hb
        obtain ⟨u1, u2⟩ := hHc b hb
        rw [wput_A 9 (by decide)] at *
        rw [sk_k (by decide), sk_k (by decide)]
        refine ⟨u1, fun q => ?_⟩
        obtain ⟨v2, v3⟩ := u2 q
        refine ⟨v2, fun j hj => ?_⟩
        rw [szN_w] at *
        have hj60 : j < 60 := by have := (wH_size hw hb).2; omega
        have v4 := v3 j hj
        rw [wput_10] at *
        rw [setI_if, v4]
        by_cases hbs : b = s
        · subst hbs
          rw [if_pos rfl, if_pos rfl]
          by_cases hjc : j = c
          · subst hjc
            rw [if_pos ⟨rfl, rfl⟩, if_pos (by omega)]
          · rw [if_neg (fun q => hjc (by omega))]
            by_cases hl : j < c
            · rw [if_pos hl, if_pos (by omega)]
            · rw [if_neg hl, if_neg (by omega)]
        · rw [if_neg hbs, if_neg (fun q => hbs (by omega)), if_neg hbs]
    · rw [if_pos q, if_pos q] at K
      exact m_met' h (fun σ' h1 h2 => K σ' h1 h2)
  · rw [if_neg hg, if_neg hg] at K
    have K' := K σ h (AgC.off (S := []) (F := []) OffM.rf)
    exact sg_M_write_0 ⟨fun g1 => ⟨fun g2 => absurd ⟨(mi 0 5).mp g1, (mi 0 3).mp g2⟩ hg, fun _ => K'⟩, fun _ => K'⟩
-- read
def rdn (g : Nat → Int32) (m : Nat) : Nat → Nat → Nat
  | 0, k => k
  | f + 1, k => if k < m ∧ rg (g k) 1 9 then rdn g m f (k + 1) else k
def rdN (A : ST) (s : Nat) : Nat := rdn (A.1 10 s) (min 3 (szN A s)) 3 0
theorem rdn_ok (g : Nat → Int32) (m : Nat) : ∀ (f k : Nat), m ≤ k + f → k ≤ m → k ≤ rdn g m f k ∧ rdn g m f k ≤ m ∧ (∀ j, k ≤ j → j < rdn g m f k → rg (g j) 1 9) ∧ (rdn g m f k = m ∨ ¬ rg (g (rdn g m f k)) 1 9)
  | 0, k, h, h2 => by
    unfold rdn
    exact ⟨Nat.le_refl _, h2, fun j h1 h2 => by omega, Or.inl (by omega)⟩
  | f + 1, k, h, h2 => by
    unfold rdn
    by_cases hc : k < m ∧ rg (g k) 1 9
    · rw [if_pos hc]
      obtain ⟨p1, p2, p3, p4⟩ := rdn_ok g m f (k + 1) (by omega) (by omega)
      refine ⟨by omega, p2, fun j h1 h2 => ?_, p4⟩
      by_cases hj : j = k
      · rw [hj]; exact hc.2
      · exact p3 j (by omega) h2
    · rw [if_neg hc]
      refine ⟨Nat.le_refl _, h2, fun j h1 h2 => by omega, ?_⟩
      by_cases hk : k = m
      · exact Or.inl hk
      · exact Or.inr (fun q => hc ⟨by omega, q⟩)
theorem rdN_ok (A : ST) (s : Nat) : rdN A s ≤ min 3 (szN A s) ∧ (∀ j, j < rdN A s → rg (A.1 10 s j) 1 9) ∧ (rdN A s = min 3 (szN A s) ∨ ¬ rg (A.1 10 s (rdN A s)) 1 9) := by
  obtain ⟨p1, p2, p3, p4⟩ := rdn_ok (A.1 10 s) (min 3 (szN A s)) 3 0 (by omega) (by omega)
  exact ⟨p2, fun j hj => p3 j (by omega) hj, p4⟩
def rput (A : ST) (s r c : Nat) : ST := setA A 2 r (fun k => if k < c then A.1 10 s k else A.1 2 r k)
theorem rput_A {A : ST} {s r c : Nat} : ∀ k, k ≠ 2 → (rput A s r c).1 k = A.1 k := fun k hk => setA_k hk
theorem rput_A' {A : ST} {s r c : Nat} : ∀ k, k ∉ ([2] : List Nat) → (rput A s r c).1 k = A.1 k := fun k hk => setA_k (fun q => hk (by rw [q]; decide))
theorem rput_2 {A : ST} {s r c : Nat} (b j : Nat) : (rput A s r c).1 2 b j = if b = r then (if j < c then A.1 10 s j else A.1 2 r j) else A.1 2 b j := setA_if _ _ _ _ _ _
theorem rput_0 {A : ST} {s r : Nat} : rput A s r 0 = A := by
  refine Prod.ext (funext fun a => ?_) rfl
  by_cases h : a = 2
  · subst h
    funext b c
    rw [rput_2]
    by_cases hb : b = r
    · rw [if_pos hb, hb]
      exact if_neg (by omega)
    · rw [if_neg hb]
  · exact setA_k h
theorem rput_s {A : ST} {s r c : Nat} : setI (rput A s r c) 2 r c (A.1 10 s c) = rput A s r (c + 1) := by
  refine Prod.ext (funext fun a => ?_) rfl
  by_cases h : a = 2
  · subst h
    funext b j
    rw [setI_if, rput_2, rput_2]
    by_cases hb : b = r
    · subst hb
      rw [if_pos rfl, if_pos rfl]
      by_cases hj : j = c
      · subst hj
        rw [if_pos ⟨rfl, rfl⟩, if_pos (by omega)]
      · rw [if_neg (fun q => hj q.2)]
        by_cases hl : j < c
        · rw [if_pos hl, if_pos (by omega)]
        · rw [if_neg hl, if_neg (by omega)]
    · rw [if_neg hb, if_neg (fun q => hb q.1), if_neg hb]
  · rw [sk_k h, rput_A a h, rput_A a h]
theorem wf_rput {A : ST} {s r c : Nat} (h : Wf A) (hc : c ≤ rdN A s) : Wf (rput A s r c) := by
  refine h.putP rput_A' ?_
  intro b k hb hk
  rw [rput_2]
  split
  next hbr =>
    subst hbr
    split
    · exact (rdN_ok A s).2.1 k (by omega)
    · exact h.2.1 b k hb hk
  next => exact h.2.1 b k hb hk
abbrev g_read (a1 a2 : Int32) : Prop := rg a1 0 3 ∧ rg a2 0 5
def an_read (A : ST) (a1 a2 : Int32) : Int32 := if g_read a1 a2 then (if lost A a1.toNatClampNeg then -11 else nI (rdN A a1.toNatClampNeg)) else -2
def st_read (A : ST) (a1 a2 : Int32) : ST := if g_read a1 a2 then (if lost A a1.toNatClampNeg then fnd A 1 else rput A a1.toNatClampNeg a2.toNatClampNeg (rdN A a1.toNatClampNeg)) else A
theorem wf_read {A : ST} {a1 a2 : Int32} (h : Wf A) : Wf (st_read A a1 a2) := by
  unfold st_read
  split
  · split
    · exact wf_fnd h
    · exact wf_rput h (Nat.le_refl _)
  · exact h
theorem cs_read {A : ST} {a1 a2 : Int32} {d : Nat} (hw : Wf A) : CS m_O_read [some (vR 0 0), some (vI a1), some (vI a2), none, none, none] (d + 2) A (st_read A a1 a2) (vI (an_read A a1 a2)) := by
  intro σ post h K
  unfold an_read st_read at K
  by_cases hg : g_read a1 a2
  · rw [if_pos hg, if_pos hg] at K
    refine sg_O_read_0 ⟨fun _ => ?_, fun g => absurd ⟨(wi 0 3).mpr hg.1, (wi 0 5).mpr hg.2⟩ g⟩
    obtain ⟨s, hs, rfl⟩ := rg_nI (n := 3) hg.1
    obtain ⟨r, hr, rfl⟩ := rg_nI (n := 5) hg.2
    have hH := h.2.2.2.2.2.2.2 s (by omega)
    have hwH := hw.2.2.2.2.2.2.2 s (by omega)
    obtain ⟨hz1, hz2⟩ := wH_size hw (show s < 4 by omega)
    rw [nI_ix (show r < 2 ^ 31 by omega), nI_ix (show s < 2 ^ 31 by omega)] at *
    refine ⟨vpin (by omega) (by decide), ?_, ?_⟩
    · unfold fs_H_isLost
      rw [hH.1]
      exact hwH.1
    unfold fn_H_isLost
    rw [hH.1]
    refine ⟨fun q => ?_, fun q => ?_⟩
    · rw [if_neg (fun z => z q), if_neg (fun z => z q)] at K
      obtain ⟨f1, f2, f3⟩ := hH.2 q
      unfold fn_H_size
      rw [f2, hz1, show (3 : Int32) = nI 3 from rfl, imin_nI (by decide) (by omega)]
      obtain ⟨p1, p2, p3⟩ := rdN_ok A s
      refine upto (n := rdN A s) (P := fun c => ∀ σc, RepC (rput A s r c) σc → AgM σ σc → Ev none (d + 2) m_O_read 50 [some (vR 0 0), none, some (vI (nI r)), some (vR 10 s), some (vI (nI (min 3 (szN A s)))), some (vI (nI c))] [] σc post) ?_ ?_ σ (by rw [rput_0]; exact h) (AgM.off (S := []) Off.rf)
      · intro σc hc hag
        have hit : ∀ j, j < szN A s → fn_H_item σc s (nI j) = A.1 10 s j := fun j hj => by
          have hHc := hc.2.2.2.2.2.2.2 s (by omega)
          rw [rput_A 9 (by decide), rput_A 10 (by decide)] at hHc
          have := (hHc.2 q).2.2 j (by unfold szN at *; rw [rput_A 9 (by decide)]; exact hj)
          unfold fn_H_item
          rw [nI_ix (by omega)]
          exact this
        refine sg_O_read_50 (by omega) ⟨⟨fun _ => trivial, fun _ => vpin (by omega) (by decide)⟩, fun _ => K σc hc hag, fun q => ?_⟩
        exfalso
        apply q
        rcases p3 with p3 | p3
        · exact Or.inl (by rw [p3]; exact Int32.le_refl _)
        · rcases Nat.lt_or_ge (rdN A s) (min 3 (szN A s)) with g | g
          · refine Or.inr ?_
            rw [hit _ (by omega), wi 1 9]
            exact p3
          · exact Or.inl ((nI_leI (by omega) (by omega)).mpr g)
      · intro c hcn ih σc hc hag
        have hHc := hc.2.2.2.2.2.2.2 s (by omega)
        rw [rput_A 9 (by decide), rput_A 10 (by decide)] at hHc
        have hit : fn_H_item σc s (nI c) = A.1 10 s c := by
          have := (hHc.2 q).2.2 c (by unfold szN at *; rw [rput_A 9 (by decide)]; omega)
          unfold fn_H_item
          rw [nI_ix (by omega)]
          exact this
        refine sg_O_read_50 (by omega) ⟨⟨fun _ => trivial, fun _ => vpin (by omega) (by decide)⟩, fun q => ?_, fun _ => ⟨vpin (by omega) (by decide), vpin (by omega) (by decide), ?_⟩⟩
        · exfalso
          rcases q with q | q
          · exact absurd ((nI_leI (by omega) (by omega)).mp q) (by omega)
          · rw [hit, wi 1 9] at q
            exact q (p2 c hcn)
        · show Ev none (d + 1) m_R_changePace 0 [some (vR 3 (nI r).toNatClampNeg), _, _, _] [] σc _
          rw [nI_ix (show r < 2 ^ 31 by omega), hit]
          refine sg_R_changePace_0 (by omega) ⟨vpin (by omega) (by decide), vpin (by omega) (by decide), _, rfl, ?_⟩
          rw [nI_ix (by omega), nI_1]
          have ho : Off [17] σc (setI σc 17 r c (A.1 10 s c)) := Off.sI Off.rf (by decide)
          refine ih _ ?_ (fun k hk => ?_)
          · rw [← rput_s]
            refine hc.putP (S := [17]) (hA1 (by decide)) ho ?_
            intro r' k' hr' hk'
            rw [setI_if, setI_if, hc.2.1 r' k' hr' hk']
          · obtain ⟨u1, u2⟩ := (AgM.off ho (by decide)) k hk
            exact ⟨u1.trans (hag k hk).1, u2.trans (hag k hk).2⟩
    · rw [if_pos q, if_pos q] at K
      exact c_found h (fun σ' h1 h2 => K σ' h1 h2)
  · rw [if_neg hg, if_neg hg] at K
    exact sg_O_read_0 ⟨fun g => absurd ⟨(wi 0 3).mp g.1, (wi 0 5).mp g.2⟩ hg, fun _ => K σ h (AgM.off (S := []) Off.rf)⟩
theorem ms_read {A : ST} {a1 a2 : Int32} {d : Nat} (hw : Wf A) : MSp m_M_read [some (vR 11 0), some (vI a1), some (vI a2), none] (d + 3) A (st_read A a1 a2) (vI (an_read A a1 a2)) := by
  intro σ post h K
  unfold an_read st_read at K
  by_cases hg : g_read a1 a2
  · rw [if_pos hg, if_pos hg] at K
    refine sg_M_read_0 ⟨fun _ => ⟨fun _ => ?_, fun g => absurd ((mi 0 5).mpr hg.2) g⟩, fun g => absurd ((mi 0 3).mpr hg.1) g⟩
    obtain ⟨s, hs, rfl⟩ := rg_nI (n := 3) hg.1
    obtain ⟨r, hr, rfl⟩ := rg_nI (n := 5) hg.2
    have hH := h.2.2.2.2.2.2.2 s (by omega)
    obtain ⟨hz1, hz2⟩ := wH_size hw (show s < 4 by omega)
    rw [nI_ix (show r < 2 ^ 31 by omega), nI_ix (show s < 2 ^ 31 by omega)] at *
    refine ⟨vpin (by omega) (by decide), ?_⟩
    rw [hH.1, m_lost hw (by omega)]
    refine ⟨fun q => ?_, fun q => ?_⟩
    · rw [if_neg (fun z => z q), if_neg (fun z => z q)] at K
      obtain ⟨p1, p2, p3⟩ := rdN_ok A s
      have hc8 : ∀ c σc, RepM (rput A s r c) σc → σc.1 43 0 s = nI (szN A s) ∧ ∀ j, j < szN A s → σc.1 44 0 (60 * s + j) = A.1 10 s j := by
        intro c σc hc
        have hHc := hc.2.2.2.2.2.2.2 s (by omega)
        rw [rput_A 9 (by decide), rput_A 10 (by decide)] at hHc
        obtain ⟨u1, u2⟩ := hHc.2 q
        refine ⟨by rw [u1, hz1], fun j hj => u2 j ?_⟩
        unfold szN at *
        rw [rput_A 9 (by decide)]
        exact hj
      refine upto (n := rdN A s) (P := fun c => ∀ σc, RepM (rput A s r c) σc → AgC σ σc → Ev none (d + 3) m_M_read 34 [some (vR 11 0), some (vI (nI s)), some (vI (nI r)), some (vI (nI c))] [] σc post) ?_ ?_ σ (by rw [rput_0]; exact h) (AgC.off (S := []) (F := []) OffM.rf)
      · intro σc hc hag
        obtain ⟨u1, u2⟩ := hc8 _ σc hc
        have ei : (60 : Int32) * nI s + nI (rdN A s) = nI (60 * s + rdN A s) := by rw [show (60 : Int32) = nI 60 from rfl, pk_mul, nI_add]
        refine sg_M_read_34 ⟨vpin (by omega) (by decide), ?_⟩
        rw [nI_ix (show s < 2 ^ 31 by omega), u1, ei, nI_ix (show 60 * s + rdN A s < 2 ^ 31 by omega)]
        refine ⟨fun _ => K σc hc hag, fun hq => ⟨vpin (by omega) (by decide), ?_⟩⟩
        have hlt : rdN A s < szN A s := by
          rcases Nat.lt_or_ge (rdN A s) (szN A s) with g | g
          · exact g
          · exact absurd ((nI_leI (by omega) (by omega)).mpr g) hq
        rw [u2 _ hlt]
        have hbad : ¬ g_pace (nI r) (nI (rdN A s)) (A.1 10 s (rdN A s)) := by
          rintro ⟨g1, g2, g3⟩
          rcases p3 with p3 | p3
          · have := g2.2
            rw [nI_toInt (by omega)] at this
            omega
          · exact p3 g3
        refine ms_pace σc _ hc (fun σ2 hc2 hag2 => ⟨_, rfl, fun _ => ?_, fun z => ?_⟩)
        · unfold st_pace at hc2
          rw [if_neg hbad] at hc2
          refine K σ2 hc2 (fun k hk => ?_)
          obtain ⟨u1, u2⟩ := hag2 k hk
          exact ⟨u1.trans (hag k hk).1, u2.trans (hag k hk).2⟩
        · exfalso
          apply z
          unfold an_pace
          rw [if_neg hbad]
          decide
      · intro c hcn ih σc hc hag
        obtain ⟨u1, u2⟩ := hc8 _ σc hc
        have ei : (60 : Int32) * nI s + nI c = nI (60 * s + c) := by rw [show (60 : Int32) = nI 60 from rfl, pk_mul, nI_add]
        refine sg_M_read_34 ⟨vpin (by omega) (by decide), ?_⟩
        rw [nI_ix (show s < 2 ^ 31 by omega), u1, ei, nI_ix (show 60 * s + c < 2 ^ 31 by omega)]
        refine ⟨fun hq => absurd ((nI_leI (by omega) (by omega)).mp hq) (by omega), fun hq => ⟨vpin (by omega) (by decide), ?_⟩⟩
        rw [u2 _ (by omega)]
        have hgood : g_pace (nI r) (nI c) (A.1 10 s c) := ⟨nI_rg' (by omega) (by omega) (by omega), nI_rg' (by omega) (by omega) (by omega), p2 c hcn⟩
        refine ms_pace σc _ hc (fun σ2 hc2 hag2 => ⟨_, rfl, fun z => ?_, fun _ => ?_⟩)
        · exfalso
          unfold an_pace at z
          rw [if_pos hgood, nI_ix (by omega), nI_ix (by omega)] at z
          have := ((wf_rput (r := r) hw (show c ≤ rdN A s by omega)).2.1 r c (by omega) (by omega)).1
          rw [le_toInt] at z
          have e0 : (0 : Int32).toInt = 0 := rfl
          omega
        · unfold st_pace at hc2
          rw [if_pos hgood, nI_ix (by omega), nI_ix (by omega), rput_s] at hc2
          rw [nI_1]
          refine ih σ2 hc2 (fun k hk => ?_)
          obtain ⟨u1, u2⟩ := hag2 k hk
          exact ⟨u1.trans (hag k hk).1, u2.trans (hag k hk).2⟩
    · rw [if_pos q, if_pos q] at K
      exact m_met' h (fun σ' h1 h2 => K σ' h1 h2)
  · rw [if_neg hg, if_neg hg] at K
    have K' := K σ h (AgC.off (S := []) (F := []) OffM.rf)
    exact sg_M_read_0 ⟨fun g1 => ⟨fun g2 => absurd ⟨(mi 0 3).mp g1, (mi 0 5).mp g2⟩ hg, fun _ => K'⟩, fun _ => K'⟩
