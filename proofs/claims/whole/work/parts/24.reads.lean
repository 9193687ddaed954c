-- the book is read: by the reference
theorem ffl_step {b : Nat → Int32} {n p : Nat} (h : p < n) : ffl b n (n - p) p = if 32 ≤ p ∨ ¬ gon b p then nI p else if zro b p then nI (p - 1) else ffl b n (n - (p + 1)) (p + 1) := by
  have e : n - p = (n - (p + 1)) + 1 := by omega
  rw [e]
  rfl
theorem ffl_end {b : Nat → Int32} {n : Nat} : ffl b n (n - n) n = if n = 0 ∨ n % 4 = 3 then -1 else nI n := by
  rw [Nat.sub_self]
  rfl
theorem here_eq {σ : ST} {b : Nat → Int32} {n p : Nat} (hn : n ≤ 60) (hp : p ≤ 63) (e6 : σ.1 11 0 6 = nI n) (e7 : σ.1 11 0 7 = nI p) (eb : σ.1 46 0 = b) : fn_M_here σ = (if n ≤ p then -1 else b p) ∧ fs_M_here σ := by
  have hle : nI n ≤ nI p ↔ n ≤ p := nI_leI (by omega) (by omega)
  unfold fn_M_here fs_M_here
  rw [e6, e7, eb, nI_ix (by omega)]
  refine ⟨?_, fun _ => trivial, fun q => vpin (by have : ¬ n ≤ p := fun z => q (hle.mpr z); omega) (by decide)⟩
  by_cases h : n ≤ p
  · rw [if_pos h, if_pos (hle.mpr h)]
  · rw [if_neg h, if_neg (fun q => h (hle.mp q))]
theorem dig_iff {σ : ST} {x : Int32} : fp_M_in σ (Int32.toInt64 x) 48 57 ↔ ¬ fgB x = -1 := by
  rw [mi 48 57]
  constructor
  · intro h q
    unfold fgB at q
    have e1 : (48 : Int32).toInt = 48 := rfl
    have e2 : (57 : Int32).toInt = 57 := rfl
    rw [if_neg (by rw [lt_toInt, e1]; have := h.1; omega), if_neg (by rw [lt_toInt, e2]; have := h.2; omega)] at q
    have := congrArg Int32.toInt q
    rw [sub_toInt (by rw [e1]; have := h.1; omega) (by rw [e1]; have := h.2; omega), e1] at this
    have e3 : (-1 : Int32).toInt = -1 := rfl
    have := h.1
    omega
  · intro h
    unfold fgB at h
    have e1 : (48 : Int32).toInt = 48 := rfl
    have e2 : (57 : Int32).toInt = 57 := rfl
    by_cases h1 : x < 48
    · rw [if_pos h1] at h; exact absurd rfl h
    · rw [if_neg h1] at h
      by_cases h2 : 57 < x
      · rw [if_pos h2] at h; exact absurd rfl h
      · rw [lt_toInt] at h1 h2
        exact ⟨by omega, by omega⟩
theorem fgB_in {x : Int32} (h : ¬ fgB x = -1) : fgB x = x - 48 := by
  unfold fgB at *
  by_cases h1 : x < 48
  · rw [if_pos h1] at h; exact absurd rfl h
  · rw [if_neg h1] at *
    by_cases h2 : 57 < x
    · rw [if_pos h2] at h; exact absurd rfl h
    · rw [if_neg h2]
theorem fgB_m1 : fgB (-1) = -1 := by decide
theorem kd_ord (x : Int32) : (if x = (112 : Int32) then (0 : Int32) else (if x = (118 : Int32) then (1 : Int32) else (if x = (100 : Int32) then (2 : Int32) else (-1 : Int32)))) = kdB x := by
  unfold kdB
  by_cases h1 : x = 112
  · subst h1; rfl
  · by_cases h2 : x = 118
    · subst h2; rfl
    · by_cases h3 : x = 100
      · subst h3; rfl
      · rw [if_neg h1, if_neg h2, if_neg h3, if_neg h3, if_neg h1, if_neg h2]
theorem kdB_m1 : kdB (-1) = -1 := by decide
theorem i32_as {a x : Int32} : (10 * a + x) - 48 = 10 * a + (x - 48) := by
  rw [Int32.sub_eq_add_neg, Int32.sub_eq_add_neg, Int32.add_assoc]
theorem i32_0 {x : Int32} : (10 * (0 : Int32) + x) - 48 = x - 48 := by
  rw [show (10 : Int32) * 0 = 0 from by decide, Int32.zero_add]
/-- one part of the book: where it cannot go on, or the next chapter -/
theorem m_part {d n i : Nat} {b : Nat → Int32} {σ : ST} (hn : n ≤ 60) (hi : i ≤ 8) (h4 : 4 * i ≤ n) (hpos : 4 * i = n → n ≠ 0) (e6 : σ.1 11 0 6 = nI n) (e7 : σ.1 11 0 7 = nI (4 * i)) (e8 : σ.1 11 0 8 = nI i) (eb : σ.1 46 0 = b) {post : Option AV → ST → Prop}
    (Kf : ∀ (σ' : ST) (p : Nat), p ≤ n → OffM [47, 48] [7, 8] σ σ' → σ'.1 11 0 7 = nI p → ffl b n (n - 4 * i) (4 * i) = nI p → post (some (vI 0)) σ')
    (Ks : ∀ σ' : ST, OffM [47, 48] [7, 8] σ σ' → 4 * i + 3 ≤ n → i < 8 → σ'.1 11 0 7 = nI (4 * i + 3) → σ'.1 11 0 8 = nI (i + 1) → (∀ c, c < i → σ'.1 47 0 c = σ.1 47 0 c ∧ σ'.1 48 0 c = σ.1 48 0 c) → σ'.1 47 0 i = knd b i → σ'.1 48 0 i = lns b i → ffl b n (n - 4 * i) (4 * i) = ffl b n (n - (4 * i + 3)) (4 * i + 3) → post (some (vI 1)) σ') :
    Ev none (d + 1) m_M_readsPart 0 [some (vR 11 0), none, none, none, none] [] σ post := by
  obtain ⟨hh, hs⟩ := here_eq hn (by omega) e6 e7 eb
  refine sg_M_readsPart_0 ⟨hs, ?_⟩
  intro z hz
  rw [kd_ord, hh] at hz
  have h8 : (nI i = 8) ↔ i = 8 := nI_is (b := 8) (by omega) (by decide)
  rw [e8, h8]
  refine ⟨fun q => ?_, fun q => ?_⟩
  · -- a letter, and room for a chapter
    have hlt : 4 * i < n := by
      rcases Nat.lt_or_ge (4 * i) n with g | g
      · exact g
      · rw [if_pos g, kdB_m1] at hz
        exact absurd hz q.1
    rw [if_neg (by omega)] at hz
    have hk : ¬ kdB (b (4 * i)) = -1 := hz ▸ q.1
    have hi8 : i < 8 := by have := q.2; omega
    have f0 : ffl b n (n - 4 * i) (4 * i) = ffl b n (n - (4 * i + 1)) (4 * i + 1) := by
      rw [ffl_step hlt, if_neg, if_neg]
      · rintro ⟨z1, -⟩; omega
      · rintro (z1 | z1)
        · omega
        · exact z1 (Or.inl ⟨by omega, hk⟩)
    rw [e7, nI_1]
    -- the first figure
    have a6 : (setI σ 11 0 7 (nI (4 * i + 1))).1 11 0 6 = nI n := by rw [sk_f (by decide)]; exact e6
    have a7 : (setI σ 11 0 7 (nI (4 * i + 1))).1 11 0 7 = nI (4 * i + 1) := by rw [setI_at]
    have ab' : (setI σ 11 0 7 (nI (4 * i + 1))).1 46 0 = b := by rw [sk_k (by decide)]; exact eb
    obtain ⟨hh1, hs1⟩ := here_eq hn (by omega) a6 a7 ab'
    refine sg_M_readsPart_68 ⟨fun w => absurd w (by decide), fun _ => ⟨hs1, fun w => ⟨hs1, ?_⟩, fun w => ?_⟩⟩
    · rw [dig_iff, hh1] at w
      have hlt1 : 4 * i + 1 < n := by
        rcases Nat.lt_or_ge (4 * i + 1) n with g | g
        · exact g
        · rw [if_pos g] at w
          exact absurd fgB_m1 w
      rw [if_neg (by omega)] at w hh1
      have f1 : ffl b n (n - (4 * i + 1)) (4 * i + 1) = ffl b n (n - (4 * i + 2)) (4 * i + 2) := by
        rw [ffl_step hlt1, if_neg, if_neg]
        · rintro ⟨z1, -⟩; omega
        · rintro (z1 | z1)
          · omega
          · exact z1 (Or.inr (Or.inr ⟨by omega, w⟩))
      rw [hh1, i32_0, ← fgB_in w, a7, nI_1]
      generalize hσ1 : setI (setI σ 11 0 7 (nI (4 * i + 1))) 11 0 7 (nI (4 * i + 1 + 1)) = σ1
      have o1 : OffM [47, 48] [7, 8] σ σ1 := by
        rw [← hσ1]
        exact OffM.sF (OffM.sF OffM.rf (by decide)) (by decide)
      have b6 : σ1.1 11 0 6 = nI n := by rw [← hσ1, sk_f (by decide)]; exact a6
      have b7 : σ1.1 11 0 7 = nI (4 * i + 2) := by rw [← hσ1, setI_at]
      have b8 : σ1.1 11 0 8 = nI i := by rw [← hσ1, sk_f (by decide), sk_f (by decide)]; exact e8
      have bb : σ1.1 46 0 = b := by rw [← hσ1, sk_k (by decide)]; exact ab'
      have b47 : σ1.1 47 = σ.1 47 := by rw [← hσ1, sk_k (by decide), sk_k (by decide)]
      have b48 : σ1.1 48 = σ.1 48 := by rw [← hσ1, sk_k (by decide), sk_k (by decide)]
      obtain ⟨hh2, hs2⟩ := here_eq hn (by omega) b6 b7 bb
      -- the second figure
      refine sg_M_readsPart_68 ⟨fun u => absurd u (by decide), fun _ => ⟨hs2, fun u => ⟨hs2, ?_⟩, fun u => ?_⟩⟩
      · rw [dig_iff, hh2] at u
        have hlt2 : 4 * i + 2 < n := by
          rcases Nat.lt_or_ge (4 * i + 2) n with g | g
          · exact g
          · rw [if_pos g] at u
            exact absurd fgB_m1 u
        rw [if_neg (by omega)] at u hh2
        rw [hh2, i32_as, ← fgB_in u, b7, show (nI (4 * i + 2) + 1 : Int32) = nI (4 * i + 3) from nI_1 _]
        generalize hσ2 : setI σ1 11 0 7 (nI (4 * i + 3)) = σ2
        have o2 : OffM [47, 48] [7, 8] σ σ2 := by
          rw [← hσ2]
          exact OffM.sF o1 (by decide)
        have c7 : σ2.1 11 0 7 = nI (4 * i + 3) := by rw [← hσ2, setI_at]
        have c8 : σ2.1 11 0 8 = nI i := by rw [← hσ2, sk_f (by decide)]; exact b8
        have c47 : σ2.1 47 = σ.1 47 := by rw [← hσ2, sk_k (by decide)]; exact b47
        have c48 : σ2.1 48 = σ.1 48 := by rw [← hσ2, sk_k (by decide)]; exact b48
        obtain ⟨x, hx, ex⟩ := fgB_rg w
        obtain ⟨y, hy, ey⟩ := fgB_rg u
        have ev : (10 : Int32) * fgB (b (4 * i + 1)) + fgB (b (4 * i + 2)) = nI (10 * x + y) := by rw [ex, ey, show (10 : Int32) = nI 10 from rfl, pk_mul, nI_add]
        refine sg_M_readsPart_68 ⟨fun _ => ⟨fun v => ?_, fun v => ?_⟩, fun v => absurd (show (2 : Int32) ≤ 0 + 1 + 1 by decide) v⟩
        · -- 00
          rw [ev] at v
          have hv0 : 10 * x + y = 0 := (nI_is (b := 0) (by omega) (by decide)).mp v
          refine Kf _ (4 * i + 1) (by omega) (OffM.sF o2 (by decide)) ?_ ?_
          · rw [setI_at, c7, show (2 : Int32) = nI 2 from rfl, pk_sub (by omega)]
            rfl
          · rw [f0, f1, ffl_step hlt2, if_neg, if_pos]
            · rfl
            · refine ⟨by omega, ?_, ?_⟩
              · rw [show 4 * i + 2 - 1 = 4 * i + 1 by omega, ex, show x = 0 by omega]; rfl
              · rw [ey, show y = 0 by omega]; rfl
            · rintro (z1 | z1)
              · omega
              · exact z1 (Or.inr (Or.inr ⟨by omega, u⟩))
        · rw [c8, nI_ix (by omega)]
          have d8 : (setI σ2 47 0 i z).1 11 0 8 = nI i := by rw [sk_k (by decide)]; exact c8
          rw [d8, nI_ix (by omega), sk_k (by decide), d8, nI_1]
          refine ⟨vpin (by omega) (by decide), vpin (by omega) (by decide), ?_⟩
          refine Ks _ (OffM.sF (OffM.sI (OffM.sI o2 (by decide) (by decide)) (by decide) (by decide)) (by decide)) (by omega) hi8 ?_ ?_ ?_ ?_ ?_ ?_
          · rw [sk_f (by decide), sk_k (by decide), sk_k (by decide)]; exact c7
          · rw [setI_at]
          · intro c hc
            rw [sk_k (show (47 : Nat) ≠ 11 by decide), sk_k (show (47 : Nat) ≠ 48 by decide), sk_f (by omega), sk_k (show (48 : Nat) ≠ 11 by decide), sk_f (by omega), sk_k (show (48 : Nat) ≠ 47 by decide), c47, c48]
            exact ⟨rfl, rfl⟩
          · rw [sk_k (show (47 : Nat) ≠ 11 by decide), sk_k (show (47 : Nat) ≠ 48 by decide), setI_at, hz]
            rfl
          · rw [sk_k (show (48 : Nat) ≠ 11 by decide), setI_at]
            rfl
          · rw [f0, f1, ffl_step hlt2, if_neg, if_neg]
            · rintro ⟨z1, z2, z3⟩
              rw [show 4 * i + 2 - 1 = 4 * i + 1 by omega] at z2
              apply v
              rw [z2, z3]
              rfl
            · rintro (z1 | z1)
              · omega
              · exact z1 (Or.inr (Or.inr ⟨by omega, u⟩))
      · rw [dig_iff, hh2] at u
        have u' : fgB (if n ≤ 4 * i + 2 then -1 else b (4 * i + 2)) = -1 := Decidable.byContradiction u
        refine Kf σ1 (4 * i + 2) (by omega) o1 b7 ?_
        rw [f0, f1]
        rcases Nat.lt_or_ge (4 * i + 2) n with g | g
        · rw [if_neg (by omega)] at u'
          rw [ffl_step g, if_pos]
          refine Or.inr ?_
          rintro (z1 | z1 | z1)
          · have := z1.1; omega
          · have := z1.1; omega
          · exact z1.2 u'
        · have e : n = 4 * i + 2 := by omega
          rw [show n - (4 * i + 2) = n - n by omega, show (4 * i + 2 : Nat) = n by omega, ffl_end, if_neg (by omega)]
    · rw [dig_iff, hh1] at w
      have w' : fgB (if n ≤ 4 * i + 1 then -1 else b (4 * i + 1)) = -1 := Decidable.byContradiction w
      refine Kf _ (4 * i + 1) (by omega) (OffM.sF OffM.rf (by decide)) a7 ?_
      rw [f0]
      rcases Nat.lt_or_ge (4 * i + 1) n with g | g
      · rw [if_neg (by omega)] at w'
        rw [ffl_step g, if_pos]
        refine Or.inr ?_
        rintro (z1 | z1 | z1)
        · have := z1.1; omega
        · have := z1.1; omega
        · exact z1.2 w'
      · rw [show n - (4 * i + 1) = n - n by omega, show (4 * i + 1 : Nat) = n by omega, ffl_end, if_neg (by omega)]
  · refine Kf σ (4 * i) h4 OffM.rf e7 ?_
    rcases Nat.lt_or_ge (4 * i) n with g | g
    · rw [if_neg (by omega)] at hz
      rw [ffl_step g, if_pos]
      by_cases hi8 : i = 8
      · exact Or.inl (by omega)
      · refine Or.inr ?_
        rintro (z1 | z1 | z1)
        · exact q ⟨hz ▸ z1.2, hi8⟩
        · have := z1.1; omega
        · have := z1.1; omega
    · have e : n = 4 * i := by omega
      have := hpos e.symm
      rw [show n - 4 * i = n - n by omega, show (4 * i : Nat) = n by omega, ffl_end, if_neg (by omega)]
def Psd (A σ : ST) : Prop := σ.1 11 0 8 = nI (nC A) ∧ ∀ c, c < nC A → σ.1 47 0 c = kC A c ∧ σ.1 48 0 c = lC A c
theorem m_reads_loop {d n : Nat} {b : Nat → Int32} (hn : n ≤ 60) {post : Option AV → ST → Prop} : ∀ (m i : Nat) (σ : ST), i + m = 9 → i ≤ 8 → 4 * i ≤ n → (4 * i = n → n ≠ 0) → σ.1 11 0 6 = nI n → σ.1 11 0 7 = nI (4 * i) → σ.1 11 0 8 = nI i → σ.1 46 0 = b → flt b n = ffl b n (n - 4 * i) (4 * i) → (∀ c, c < i → σ.1 47 0 c = knd b c ∧ σ.1 48 0 c = lns b c) →
    (∀ σ', OffM [47, 48] [7, 8] σ σ' → σ'.1 11 0 8 = nI (nch b n) → (∀ c, c < nch b n → σ'.1 47 0 c = knd b c ∧ σ'.1 48 0 c = lns b c) → post (some (vI (flt b n))) σ') →
    Ev none (d + 2) m_M_reads 23 [some (vR 11 0), some (vI 1)] [] σ post
  | 0, i, σ, him, hi, h4, hpos, e6, e7, e8, eb, hf, hc, K => by omega
  | m + 1, i, σ, him, hi, h4, hpos, e6, e7, e8, eb, hf, hc, K => by
    have fail : ∀ (σ' : ST) (p : Nat), p ≤ n → OffM [47, 48] [7, 8] σ σ' → σ'.1 11 0 7 = nI p → flt b n = nI p → Ev none (d + 1) m_M_none 0 [some (vR 11 0)] [] σ' (fun r s => ∃ z : Int32, r = some (vI z) ∧ post (some (vI z)) s) := by
      intro σ' p hp ho h7 hfl
      refine sg_M_none_0 ⟨_, rfl, ?_⟩
      rw [sk_f (by decide), h7, ← hfl]
      have hn0 : nch b n = 0 := by
        unfold nch
        rw [if_neg]
        rw [hfl]
        intro q
        have := congrArg Int32.toInt q
        rw [nI_toInt (by omega)] at this
        have e3 : (-1 : Int32).toInt = -1 := rfl
        omega
      refine K _ (OffM.sF ho (by decide)) ?_ (fun c hc => by omega)
      rw [setI_at, hn0]
      rfl
    refine sg_M_reads_23 ⟨fun q => absurd q (by decide), fun _ => ?_⟩
    refine m_part hn hi h4 hpos e6 e7 e8 eb (fun σ' p hp ho h7 hfl => ⟨_, rfl, fun _ => fail σ' p hp ho h7 (hf.trans hfl), fun q => absurd rfl q⟩) (fun σ' ho h3 hi8 s7 s8 sc sk sl sf => ⟨_, rfl, fun q => absurd q (by decide), fun _ => ?_⟩)
    intro z5 hz5
    have s6 : σ'.1 11 0 6 = nI n := (ho.2 6 (by decide)).trans e6
    have sb : σ'.1 46 0 = b := by rw [(ho.1 46 (by decide) (by decide)).1]; exact eb
    have hle : nI n ≤ nI (4 * i + 3) ↔ n ≤ 4 * i + 3 := nI_leI (by omega) (by omega)
    rw [s6, s7] at hz5
    have scc : ∀ c, c < i + 1 → σ'.1 47 0 c = knd b c ∧ σ'.1 48 0 c = lns b c := by
      intro c hcc
      by_cases hci : c = i
      · subst hci
        exact ⟨sk, sl⟩
      · obtain ⟨u1, u2⟩ := sc c (by omega)
        rw [u1, u2]
        exact hc c (by omega)
    by_cases hend : n ≤ 4 * i + 3
    · -- the book ends here
      have hz0 : z5 = 0 := by rw [hz5]; exact bi_f (fun q => q (hle.mpr hend))
      subst hz0
      refine ⟨fun _ => ?_, fun q => absurd rfl q⟩
      intro z7 hz7
      have hz70 : z7 = 0 := by rw [hz7]; exact bi_f (fun q => q rfl)
      subst hz70
      refine sg_M_reads_23 ⟨fun _ => ?_, fun q => absurd rfl q⟩
      have en : n = 4 * i + 3 := by omega
      have hfl : flt b n = -1 := by
        rw [hf, sf, show n - (4 * i + 3) = n - n by omega, show (4 * i + 3 : Nat) = n by omega, ffl_end, if_pos (by omega)]
      have hnc : nch b n = i + 1 := by
        unfold nch
        rw [if_pos hfl]
        omega
      rw [← hfl]
      refine K _ (OffM.sF ho (by decide)) ?_ ?_
      · rw [sk_f (by decide), hnc]
        exact s8
      · intro c hcc
        rw [sk_k (by decide), sk_k (by decide)]
        exact scc c (by omega)
    · have hz1 : z5 = 1 := by rw [hz5]; exact bi_t (fun q => hend (hle.mp q))
      subst hz1
      obtain ⟨hh, hs⟩ := here_eq hn (by omega) s6 s7 sb
      rw [if_neg hend] at hh
      refine ⟨fun q => absurd q (by decide), fun _ => ⟨hs, fun w => ?_, fun w => ?_⟩⟩
      · intro z11 hz11
        have hz : z11 = 1 := by rw [hz11]; exact bi_t (by decide)
        subst hz
        rw [hh] at w
        rw [s7, nI_1]
        refine m_reads_loop hn m (i + 1) _ (by omega) (by omega) (by omega) (by omega) (by rw [sk_f (by decide)]; exact s6) (by rw [setI_at, show 4 * i + 3 + 1 = 4 * (i + 1) by omega]) (by rw [sk_f (by decide)]; exact s8) (by rw [sk_k (by decide)]; exact sb) ?_ ?_ (fun σ2 t1 t2 t3 => K σ2 (OffM.tr (OffM.sF ho (by decide)) t1) t2 t3)
        · rw [hf, sf, ffl_step (by omega), if_neg, if_neg]
          · rw [show 4 * i + 3 + 1 = 4 * (i + 1) by omega]
          · rintro ⟨z1, -⟩; omega
          · rintro (z1 | z1)
            · omega
            · exact z1 (Or.inr (Or.inl ⟨by omega, w⟩))
        · intro c hcc
          rw [sk_k (by decide), sk_k (by decide)]
          exact scc c hcc
      · rw [hh] at w
        refine fail σ' (4 * i + 3) (by omega) ho s7 ?_
        rw [hf, sf, ffl_step (by omega), if_pos]
        refine Or.inr ?_
        rintro (z1 | z1 | z1)
        · have := z1.1; omega
        · exact w z1.2
        · have := z1.1; omega
/-- reads(): the fault, and the chapters in the cells -/
theorem m_reads {A σ : ST} {d : Nat} {post : Option AV → ST → Prop} (hw : Wf A) (h : RepM A σ) (K : ∀ σ', RepM A σ' → Psd A σ' → OffM [47, 48] [7, 8] σ σ' → post (some (vI (flt (A.1 1 0) (sN A)))) σ') : Ev none (d + 2) m_M_reads 0 [some (vR 11 0), none] [] σ post := by
  have hl : sN A ≤ 60 := hw.1.2
  have eN : σ.1 11 0 6 = nI (sN A) := h.1.1.trans hw.1.1
  refine sg_M_reads_0 ?_
  intro z hz
  rw [sk_f (by decide), sk_f (by decide), eN] at hz
  have hle : nI (sN A) ≤ 0 ↔ sN A ≤ 0 := nI_leI (b := 0) (by omega) (by decide)
  have ho : OffM [47, 48] [7, 8] σ (setI (setI σ 11 0 7 0) 11 0 8 0) := OffM.sF (OffM.sF OffM.rf (by decide)) (by decide)
  by_cases h0 : sN A = 0
  · have hz0 : z = 0 := by rw [hz]; exact bi_f (fun q => q (hle.mpr (by omega)))
    subst hz0
    refine sg_M_reads_23 ⟨fun _ => ?_, fun q => absurd rfl q⟩
    have hfl : flt (A.1 1 0) (sN A) = -1 := by
      rw [h0]
      rfl
    have hnc : nC A = 0 := by
      unfold nC nch
      rw [if_pos hfl]
      omega
    rw [← hfl]
    refine K _ (h.off ho) ⟨?_, fun c hc => by omega⟩ ho
    rw [setI_at, hnc]
    rfl
  · have hz1 : z = 1 := by rw [hz]; exact bi_t (fun q => h0 (by have := hle.mp q; omega))
    subst hz1
    refine m_reads_loop (b := A.1 1 0) hl 9 0 _ (by omega) (by omega) (by omega) (by omega) (by rw [sk_f (by decide), sk_f (by decide)]; exact eN) (by rw [sk_f (by decide), setI_at]; rfl) (by rw [setI_at]; rfl) (by rw [sk_k (by decide), sk_k (by decide)]; exact h.1.2) rfl (fun c hc => by omega) (fun σ' t1 t2 t3 => ?_)
    have ho2 := OffM.tr ho t1
    exact K σ' (h.off ho2) ⟨t2, t3⟩ ho2
