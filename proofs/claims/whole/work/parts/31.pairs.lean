-- pairs
def rst (s a b : Nat) : Nat := ((nI s &&& ((isl 1 (nI a)) ^^^ (-1))) &&& ((isl 1 (nI b)) ^^^ (-1))).toNatClampNeg
def lo (s : Nat) : Nat := if s.testBit 0 then 0 else if s.testBit 1 then 1 else if s.testBit 2 then 2 else if s.testBit 3 then 3 else if s.testBit 4 then 4 else 5
theorem rst_i : ∀ s, s < 64 → ∀ a, a < 6 → ∀ b, b < 6 → (nI s &&& ((isl 1 (nI a)) ^^^ (-1))) &&& ((isl 1 (nI b)) ^^^ (-1)) = nI (rst s a b) ∧ rst s a b < 64 := by decide +kernel
theorem lo_ok : ∀ s, s < 64 → s ≠ 0 → s.testBit (lo s) = true ∧ ∀ b, b < lo s → s.testBit b = false := by decide +kernel
theorem lo_lt (s : Nat) : lo s < 6 := by
  unfold lo
  repeat' split
  all_goals decide
theorem rst_a : ∀ s, s < 64 → ∀ a, a < 6 → s.testBit a = true → ∀ b, b < 6 → rst s a b < s ∧ pcn (rst s a b) + 1 ≤ pcn s := by decide +kernel
theorem rst_b0 : ∀ s, s < 64 → ∀ a, a < 6 → ∀ b, b < 6 → (!s.testBit a || !s.testBit b || decide (a = b) || decide (pcn (rst s a b) + 2 = pcn s)) = true := by decide +kernel
theorem rst_b (s : Nat) (hs : s < 64) (a : Nat) (ha : a < 6) (h1 : s.testBit a = true) (b : Nat) (hb : b < 6) (h2 : s.testBit b = true) (h3 : a ≠ b) : pcn (rst s a b) + 2 = pcn s := by
  have := rst_b0 s hs a ha b hb
  rw [h1, h2, decide_eq_false h3] at this
  simpa using this
theorem rst_c0 : ∀ s, s < 64 → ∀ a, a < 6 → ∀ b, b < 6 → ∀ r, r < 6 → (rst s a b).testBit r = (s.testBit r && (!decide (r = a)) && (!decide (r = b))) := by decide +kernel
theorem rst_c : ∀ s, s < 64 → ∀ a, a < 6 → ∀ b, b < 6 → ∀ r, r < 6 → ((rst s a b).testBit r = true ↔ (s.testBit r = true ∧ r ≠ a ∧ r ≠ b)) := by
  intro s hs a ha b hb r hr
  rw [rst_c0 s hs a ha b hb r hr]
  simp [and_assoc]
theorem ev2 : ∀ s, s < 64 → s ≠ 0 → pcn s % 2 = 0 → ∃ b, b < 6 ∧ lo s < b ∧ s.testBit b = true := by
  have h : ∀ s, s < 64 → s ≠ 0 → pcn s % 2 = 0 → ¬ ∀ b, b < 6 → ¬ (lo s < b ∧ s.testBit b = true) := by decide +kernel
  intro s h1 h2 h3
  refine Decidable.byContradiction fun q => h s h1 h2 h3 (fun b hb g => q ⟨b, hb, g.1, g.2⟩)
theorem lo_is : ∀ s, s < 64 → ∀ i, i < 6 → s.testBit i = true → (∀ b, b < i → s.testBit b = false) → lo s = i := by decide +kernel
theorem hldT {s b : Nat} (hs : s < 64) (hb : b < 6) : hld (nI s) b ↔ s.testBit b = true := bit_one (by omega) (by omega)
-- how long two wait
def wtK (A : ST) (a b : Nat) : Nat → Int32
  | 0 => 0
  | c + 1 => if A.1 4 0 c = 0 then wtK A a b c + iabs (tm A a c - tm A b c) else wtK A a b c
def Wt (A : ST) (a b : Nat) : Int32 := wtK A a b (nC A)
theorem wtK_s {A : ST} {a b c : Nat} : wtK A a b (c + 1) = if A.1 4 0 c = 0 then wtK A a b c + iabs (tm A a c - tm A b c) else wtK A a b c := rfl
theorem iabs_nI {x y : Nat} (hx : x < 2 ^ 30) (hy : y < 2 ^ 30) : iabs (nI x - nI y) = nI (max x y - min x y) := by
  unfold iabs
  by_cases h : y ≤ x
  · rw [pk_sub h, if_pos (nI_pos' (by omega)), show max x y - min x y = x - y by omega]
  · rw [if_neg (Int32.not_le.mpr (pk_sneg hy (by omega)))]
    rw [Int32.zero_sub, Int32.neg_sub, pk_sub (by omega), show max x y - min x y = y - x by omega]
theorem wtK_ix {A : ST} (hw : Wf A) {a b : Nat} (ha : a < 6) (hb : b < 6) : ∀ c, c ≤ nC A → ∃ t : Nat, t ≤ 198 * c ∧ wtK A a b c = nI t
  | 0, _ => ⟨0, by omega, rfl⟩
  | c + 1, hc => by
    have h8 := nC_le hw
    obtain ⟨t, h1, h2⟩ := wtK_ix hw ha hb c (by omega)
    obtain ⟨x, _, hx, ex⟩ := tm_ix hw ha (show c < nC A by omega)
    obtain ⟨y, _, hy, ey⟩ := tm_ix hw hb (show c < nC A by omega)
    rw [wtK_s]
    split
    · exact ⟨t + (max x y - min x y), by omega, by rw [h2, ex, ey, iabs_nI (by omega) (by omega), nI_add]⟩
    · exact ⟨t, by omega, h2⟩
theorem Wt_ix {A : ST} (hw : Wf A) {a b : Nat} (ha : a < 6) (hb : b < 6) : ∃ t : Nat, t ≤ 1584 ∧ Wt A a b = nI t := by
  have h8 := nC_le hw
  obtain ⟨t, h1, h2⟩ := wtK_ix hw ha hb (nC A) (Nat.le_refl _)
  exact ⟨t, by omega, h2⟩
theorem c_wt {A σ : ST} {d a b : Nat} (hw : Wf A) (h : RepC A σ) (ha : a < 6) (hb : b < 6) {post : Option AV → ST → Prop} (K : post (some (vI (Wt A a b))) σ) : Ev none (d + 3) m_C_waitOfTwo 0 [some (vR 2 0), some (vI (nI a)), some (vI (nI b)), none, none] [] σ post := by
  have h8 := nC_le hw
  refine sg_C_waitOfTwo_0 ?_
  refine upto (n := nC A) (P := fun c => Ev none (d + 3) m_C_waitOfTwo 5 [some (vR 2 0), some (vI (nI a)), some (vI (nI b)), some (vI (wtK A a b c)), some (vI (nI c))] [] σ post) ?_ ?_
  · exact sg_C_waitOfTwo_5 ⟨fun _ => K, fun q => absurd (by rw [c_chs h]; exact Int32.le_refl _) q⟩
  · intro c hc ih
    obtain ⟨t1, t2⟩ := c_tm hw h ha hc
    obtain ⟨u1, u2⟩ := c_tm hw h hb hc
    refine sg_C_waitOfTwo_5 ⟨fun q => ?_, fun _ => ⟨vpin (by omega) (by decide), ⟨fun _ => ⟨t2, u2⟩, fun _ => trivial⟩, fun z hz => ?_⟩⟩
    · rw [c_chs h] at q
      exact absurd ((nI_leI (by omega) (by omega)).mp q) (by omega)
    · rw [nI_ix (by omega), h.2.2.2.1 c (by omega), t1, u1] at hz
      rw [hz, nI_1]
      exact ih
theorem m_apart {A σ : ST} {d a b : Nat} (hw : Wf A) (h : RepM A σ) (hp : Psd A σ) (ha : a < 6) (hb : b < 6) {post : Option AV → ST → Prop} (K : post (some (vI (Wt A a b))) σ) : Ev none (d + 3) m_M_apart 0 [some (vR 11 0), some (vI (nI a)), some (vI (nI b)), none, none] [] σ post := by
  have h8 := nC_le hw
  refine sg_M_apart_0 ?_
  refine upto (n := nC A) (P := fun c => Ev none (d + 3) m_M_apart 5 [some (vR 11 0), some (vI (nI a)), some (vI (nI b)), some (vI (wtK A a b c)), some (vI (nI c))] [] σ post) ?_ ?_
  · exact sg_M_apart_5 ⟨fun _ => K, fun q => absurd (by rw [hp.1]; exact Int32.le_refl _) q⟩
  · intro c hc ih
    have hir := m_isRead hw h hp hc
    obtain ⟨t1, t2⟩ := m_tm hw h hp ha hc
    obtain ⟨u1, u2⟩ := m_tm hw h hp hb hc
    refine sg_M_apart_5 ⟨fun q => ?_, fun _ => ⟨⟨fun _ => ⟨t2, u2⟩, fun _ => trivial⟩, fun z hz => ?_⟩⟩
    · rw [hp.1] at q
      exact absurd ((nI_leI (by omega) (by omega)).mp q) (by omega)
    · rw [t1, u1] at hz
      have e : wtK A a b c + z = wtK A a b (c + 1) := by
        rw [hz, wtK_s]
        by_cases q : A.1 4 0 c = 0
        · rw [if_pos (hir.mpr q), if_pos q]
          unfold fn_M_amount iabs
          rw [Int32.zero_sub]
        · rw [if_neg (fun w => q (hir.mp w)), if_neg q, Int32.add_zero]
      rw [e, nI_1]
      exact ih
-- the partner
def pkI (ww : Nat → Int32) (s a : Nat) : Nat → Nat
  | 0 => a
  | n + 1 => if s.testBit (a + 1 + n) then (if pkI ww s a n = a then a + 1 + n else if ww (pkI ww s a n) ≤ ww (a + 1 + n) then pkI ww s a n else a + 1 + n) else pkI ww s a n
theorem pkI_s {ww : Nat → Int32} {s a n : Nat} : pkI ww s a (n + 1) = if s.testBit (a + 1 + n) then (if pkI ww s a n = a then a + 1 + n else if ww (pkI ww s a n) ≤ ww (a + 1 + n) then pkI ww s a n else a + 1 + n) else pkI ww s a n := rfl
theorem pkI_rg (ww : Nat → Int32) (s a : Nat) : ∀ n, pkI ww s a n = a ∨ (a < pkI ww s a n ∧ pkI ww s a n ≤ a + n ∧ s.testBit (pkI ww s a n) = true)
  | 0 => Or.inl rfl
  | n + 1 => by
    have ih := pkI_rg ww s a n
    rw [pkI_s]
    split
    next hb =>
      split
      · exact Or.inr ⟨by omega, by omega, hb⟩
      · split
        · rcases ih with ih | ih
          · contradiction
          · exact Or.inr ⟨ih.1, by omega, ih.2.2⟩
        · exact Or.inr ⟨by omega, by omega, hb⟩
    next =>
      rcases ih with ih | ih
      · exact Or.inl ih
      · exact Or.inr ⟨ih.1, by omega, ih.2.2⟩
theorem pkI_ne (ww : Nat → Int32) (s a : Nat) : ∀ n b, a < b → b ≤ a + n → s.testBit b = true → pkI ww s a n ≠ a
  | 0, b, h1, h2, _ => by omega
  | n + 1, b, h1, h2, h3 => by
    rw [pkI_s]
    by_cases e : b = a + 1 + n
    · subst e
      rw [if_pos h3]
      split
      · omega
      · split
        · assumption
        · omega
    · have ih := pkI_ne ww s a n b h1 (by omega) h3
      rw [if_neg ih]
      split
      · split
        · exact ih
        · omega
      · exact ih
theorem pkI_cg {ww wv : Nat → Int32} {s a : Nat} : ∀ n, (∀ b, a < b → b ≤ a + n → s.testBit b = true → ww b = wv b) → pkI ww s a n = pkI wv s a n
  | 0, _ => rfl
  | n + 1, h => by
    have ih := pkI_cg (ww := ww) (wv := wv) n (fun b h1 h2 h3 => h b h1 (by omega) h3)
    rw [pkI_s, pkI_s, ih]
    by_cases hb : s.testBit (a + 1 + n) = true
    · rw [if_pos hb, if_pos hb]
      by_cases hp : pkI wv s a n = a
      · rw [if_pos hp, if_pos hp]
      · rw [if_neg hp, if_neg hp, h _ (by omega) (by omega) hb]
        rcases pkI_rg wv s a n with q | q
        · exact absurd q hp
        · rw [h _ q.1 (by omega) q.2.2]
    · rw [if_neg hb, if_neg hb]
def wvA (A : ST) (L : Nat → Int32) (s : Nat) : Int32 := Wt A (lo s) (pkI (fun b => Wt A (lo s) b + L (rst s (lo s) b)) s (lo s) (5 - lo s)) + L (rst s (lo s) (pkI (fun b => Wt A (lo s) b + L (rst s (lo s) b)) s (lo s) (5 - lo s)))
def tab (A : ST) : Nat → Nat → Int32
  | 0, _ => 0
  | k + 1, s => if s = k + 1 then wvA A (tab A k) (k + 1) else tab A k s
def LI (A : ST) (s : Nat) : Int32 := tab A s s
theorem tab_eq {A : ST} : ∀ k s, s ≤ k → tab A k s = LI A s
  | 0, s, h => by rw [show s = 0 by omega]; rfl
  | k + 1, s, h => by
    by_cases e : s = k + 1
    · rw [e]; rfl
    · show (if s = k + 1 then wvA A (tab A k) (k + 1) else tab A k s) = _
      rw [if_neg e]
      exact tab_eq k s (by omega)
abbrev wwS (A : ST) (s b : Nat) : Int32 := Wt A (lo s) b + LI A (rst s (lo s) b)
def pt (A : ST) (s : Nat) : Nat := pkI (wwS A s) s (lo s) (5 - lo s)
theorem pt_lt (A : ST) (s : Nat) : pt A s < 6 := by
  have := lo_lt s
  rcases pkI_rg (wwS A s) s (lo s) (5 - lo s) with q | q
  · unfold pt; omega
  · unfold pt; omega
theorem LI_eq {A : ST} {s : Nat} (h1 : s ≠ 0) (hs : s < 64) : LI A s = wwS A s (pt A s) := by
  obtain ⟨k, rfl⟩ : ∃ k, s = k + 1 := ⟨s - 1, by omega⟩
  have hl := lo_lt (k + 1)
  have hb := (lo_ok (k + 1) hs h1).1
  have e : ∀ b, b < 6 → tab A k (rst (k + 1) (lo (k + 1)) b) = LI A (rst (k + 1) (lo (k + 1)) b) := fun b hb6 => tab_eq k _ (by have := (rst_a (k + 1) hs _ hl hb b hb6).1; omega)
  have e2 : pkI (fun b => Wt A (lo (k + 1)) b + tab A k (rst (k + 1) (lo (k + 1)) b)) (k + 1) (lo (k + 1)) (5 - lo (k + 1)) = pt A (k + 1) := pkI_cg _ (fun b h1 h2 h3 => by rw [e b (by omega)])
  have e3 : LI A (k + 1) = wvA A (tab A k) (k + 1) := by
    show (if k + 1 = k + 1 then wvA A (tab A k) (k + 1) else tab A k (k + 1)) = _
    rw [if_pos rfl]
  rw [e3]
  unfold wvA
  rw [e2, e _ (pt_lt A (k + 1))]
theorem LI_ix {A : ST} (hw : Wf A) : ∀ n s, s ≤ n → s < 64 → ∃ t : Nat, t ≤ 1584 * pcn s ∧ LI A s = nI t
  | 0, s, h, _ => by rw [show s = 0 by omega]; exact ⟨0, by omega, rfl⟩
  | n + 1, s, h, hs => by
    by_cases h0 : s = 0
    · rw [h0]; exact ⟨0, by omega, rfl⟩
    · have hl := lo_lt s
      have hp := pt_lt A s
      obtain ⟨r1, r2⟩ := rst_a s hs _ hl (lo_ok s hs h0).1 _ hp
      obtain ⟨t, t1, t2⟩ := LI_ix hw n (rst s (lo s) (pt A s)) (by omega) (by omega)
      obtain ⟨u, u1, u2⟩ := Wt_ix hw hl hp
      exact ⟨u + t, by omega, by rw [LI_eq h0 hs]; show Wt A (lo s) (pt A s) + LI A (rst s (lo s) (pt A s)) = _; rw [u2, t2, nI_add]⟩
theorem pcn_6 : ∀ s, s < 64 → pcn s ≤ 6 := by decide +kernel
theorem wwS_ix {A : ST} (hw : Wf A) {s b : Nat} (h0 : s ≠ 0) (hs : s < 64) (hb : b < 6) : ∃ t : Nat, t < 1000000 ∧ wwS A s b = nI t := by
  have hl := lo_lt s
  obtain ⟨r1, r2⟩ := rst_a s hs _ hl (lo_ok s hs h0).1 _ hb
  obtain ⟨t, t1, t2⟩ := LI_ix hw 63 (rst s (lo s) b) (by omega) (by omega)
  obtain ⟨u, u1, u2⟩ := Wt_ix hw hl hb
  have := pcn_6 s hs
  exact ⟨u + t, by omega, by show Wt A (lo s) b + LI A (rst s (lo s) b) = _; rw [u2, t2, nI_add]⟩
theorem pt_ok {A : ST} {s : Nat} (h0 : s ≠ 0) (hs : s < 64) (he : pcn s % 2 = 0) : lo s < pt A s ∧ s.testBit (pt A s) = true := by
  obtain ⟨b, b1, b2, b3⟩ := ev2 s hs h0 he
  have hne := pkI_ne (wwS A s) s (lo s) (5 - lo s) b b2 (by omega) b3
  rcases pkI_rg (wwS A s) s (lo s) (5 - lo s) with q | q
  · exact absurd q hne
  · exact ⟨q.1, q.2.2⟩
theorem rst_even {s a b : Nat} (hs : s < 64) (ha : a < 6) (hb : b < 6) (h1 : s.testBit a = true) (h2 : s.testBit b = true) (hn : a ≠ b) (he : pcn s % 2 = 0) : pcn (rst s a b) % 2 = 0 := by
  have := rst_b s hs a ha h1 b hb h2 hn
  omega
-- the class's table
def cWt (A σ : ST) : Prop := ∀ a b, a < b → b < 6 → σ.1 29 0 (6 * a + b) = Wt A a b
def cTb (A : ST) (k : Nat) (σ : ST) : Prop := ∀ s, s < k → s < 64 → pcn s % 2 = 0 → σ.1 30 0 s = LI A s
theorem ix6 (a b : Nat) : (6 : Int32) * nI a + nI b = nI (6 * a + b) := by rw [show (6 : Int32) = nI 6 from rfl, pk_mul, nI_add]
theorem ww_c {σ : ST} {s a b : Nat} (hs : s < 64) (ha : a < 6) (hb : b < 6) : fs_T_waitWith σ (nI s) (nI a) (nI b) ∧ fn_T_waitWith σ (nI s) (nI a) (nI b) = σ.1 29 0 (6 * a + b) + σ.1 30 0 (rst s a b) := by
  obtain ⟨e1, e2⟩ := rst_i s hs a ha b hb
  unfold fs_T_waitWith fn_T_waitWith fn_T_without
  rw [e1, ix6, nI_ix (by omega), nI_ix (by omega)]
  exact ⟨⟨vpin (by omega) (by decide), vpin (by omega) (by decide)⟩, rfl⟩
theorem ww_S {A σ : ST} {s b : Nat} (hW : cWt A σ) (hT : cTb A s σ) (h0 : s ≠ 0) (hs : s < 64) (he : pcn s % 2 = 0) (hb : b < 6) (hl : lo s < b) (h3 : s.testBit b = true) : fn_T_waitWith σ (nI s) (nI (lo s)) (nI b) = wwS A s b := by
  have hl6 := lo_lt s
  have hlo := (lo_ok s hs h0).1
  have hr := (rst_a s hs _ hl6 hlo b hb).1
  rw [(ww_c hs hl6 hb).2, hW _ _ hl hb, hT _ hr (by omega) (rst_even hs hl6 hb hlo h3 (by omega) he)]
theorem c_lp {σ : ST} {d s a : Nat} (hs : s < 64) (ha : a < 6) {post : Option AV → ST → Prop} (K : post (some (vI (nI (pkI (fun b => fn_T_waitWith σ (nI s) (nI a) (nI b)) s a (5 - a))))) σ) : Ev none (d + 2) m_T_leastPartner 0 [some (vR 7 0), some (vI (nI s)), some (vI (nI a)), none, none] [] σ post := by
  refine sg_T_leastPartner_0 ?_
  rw [nI_1]
  refine upto (n := 5 - a) (P := fun n => Ev none (d + 2) m_T_leastPartner 7 [some (vR 7 0), some (vI (nI s)), some (vI (nI a)), some (vI (nI (pkI (fun b => fn_T_waitWith σ (nI s) (nI a) (nI b)) s a n))), some (vI (nI (a + 1 + n)))] [] σ post) ?_ ?_
  · refine sg_T_leastPartner_7 ⟨fun _ => K, fun q => absurd ((nI_leI (a := 6) (by decide) (by omega)).mpr (by omega)) q⟩
  · intro n hn ih
    have hp : pkI (fun b => fn_T_waitWith σ (nI s) (nI a) (nI b)) s a n < 6 := by
      rcases pkI_rg (fun b => fn_T_waitWith σ (nI s) (nI a) (nI b)) s a n with q | q <;> omega
    have hb := hldT hs (show a + 1 + n < 6 by omega)
    refine sg_T_leastPartner_7 ⟨fun q => absurd ((nI_leI (a := 6) (by decide) (by omega)).mp q) (by omega), fun _ => ⟨⟨fun _ => ⟨fun _ => trivial, fun _ => ⟨(ww_c hs ha (by omega)).1, (ww_c hs ha hp).1⟩⟩, fun _ => trivial⟩, fun z hz => ?_⟩⟩
    have e : z = nI (pkI (fun b => fn_T_waitWith σ (nI s) (nI a) (nI b)) s a (n + 1)) := by
      rw [hz, pkI_s]
      by_cases q : s.testBit (a + 1 + n) = true
      · rw [if_pos (hb.mpr q), if_pos q]
        by_cases g : pkI (fun b => fn_T_waitWith σ (nI s) (nI a) (nI b)) s a n = a
        · rw [if_pos (by rw [g]), if_pos g]
        · rw [if_neg (fun w => g ((nI_eq (by omega) (by omega)).mp w)), if_neg g]
          split <;> rfl
      · rw [if_neg (fun w => q (hb.mp w)), if_neg q]
    rw [e, nI_1]
    exact ih
theorem c_lo {σ : ST} {d s : Nat} (h0 : s ≠ 0) (hs : s < 64) {post : Option AV → ST → Prop} (K : post (some (vI (nI (lo s)))) σ) : Ev none (d + 1) m_T_leastOf 0 [some (vI (nI s)), none] [] σ post := by
  have hl := lo_lt s
  obtain ⟨l1, l2⟩ := lo_ok s hs h0
  refine sg_T_leastOf_0 ?_
  refine upto (n := lo s) (P := fun r => Ev none (d + 1) m_T_leastOf 2 [some (vI (nI s)), some (vI (nI r))] [] σ post) ?_ ?_
  · exact sg_T_leastOf_2 ⟨fun _ => K, fun q => absurd (Or.inr ((hldT hs hl).mpr l1)) q⟩
  · intro r hr ih
    refine sg_T_leastOf_2 ⟨fun q => ?_, fun _ => by rw [nI_1]; exact ih⟩
    exfalso
    rcases q with q | q
    · exact absurd ((nI_leI (a := 5) (by decide) (by omega)).mp q) (by omega)
    · have := (hldT hs (by omega)).mp q
      rw [l2 r hr] at this
      cases this
theorem m_lo {σ : ST} {d s : Nat} (h0 : s ≠ 0) (hs : s < 64) {post : Option AV → ST → Prop} (K : post (some (vI (nI (lo s)))) σ) : Ev none (d + 1) m_M_first 0 [some (vI (nI s)), none] [] σ post := by
  have hl := lo_lt s
  obtain ⟨l1, l2⟩ := lo_ok s hs h0
  refine sg_M_first_0 ?_
  refine upto (n := lo s) (P := fun r => Ev none (d + 1) m_M_first 2 [some (vI (nI s)), some (vI (nI r))] [] σ post) ?_ ?_
  · exact sg_M_first_2 ⟨fun _ => K, fun q => absurd ((hldT hs hl).mpr l1) q⟩
  · intro r hr ih
    refine sg_M_first_2 ⟨fun q => ?_, fun _ => by rw [nI_1]; exact ih⟩
    have := (hldT hs (by omega)).mp q
    rw [l2 r hr] at this
    cases this
def pf (A : ST) : Nat → Nat → Nat → Nat
  | f + 2, s, r => if lo s = r then pt A s else if pt A s = r then lo s else pf A f (rst s (lo s) (pt A s)) r
  | 1, _, _ => 0
  | 0, _, _ => 0
theorem pf_s {A : ST} {f s r : Nat} : pf A (f + 2) s r = if lo s = r then pt A s else if pt A s = r then lo s else pf A f (rst s (lo s) (pt A s)) r := by
  rw [pf]
theorem pcn_0 : ∀ s, s < 64 → pcn s = 0 → s = 0 := by decide +kernel
theorem bit_0 : ∀ r, (0 : Nat).testBit r = false := by intro r; simp
/-- a set with one in it is not empty -/
theorem ne0 {s r : Nat} (h : s.testBit r = true) : s ≠ 0 := by
  intro q
  rw [q, bit_0] at h
  cases h
def cPt (A : ST) (s : Nat) (σ : ST) : Prop := σ.1 7 0 4 = LI A s ∧ ∀ r, r < 6 → s.testBit r = true → σ.1 31 0 r = nI (pf A (pcn s) s r)
theorem pf_lt {A : ST} : ∀ f s r, pf A f s r < 6
  | f + 2, s, r => by
    rw [pf_s]
    split
    · exact pt_lt A s
    · split
      · exact lo_lt s
      · exact pf_lt f _ r
  | 1, _, _ => by unfold pf; decide
  | 0, _, _ => by unfold pf; decide
theorem c_seat {A σ : ST} {d s : Nat} (hw : Wf A) (h : RepC A σ) (h0 : s ≠ 0) (hs : s < 64) (he : pcn s % 2 = 0) {post : Option AV → ST → Prop} (K : ∀ σ', Off [7, 29, 30, 31] σ σ' → cPt A s σ' → post none σ') : Ev none (d + 4) m_T_seat 0 [some (vR 7 0), some (vI (nI s)), none, none, none] [] σ post := by
  refine sg_T_seat_0 ?_
  refine upto (n := 6) (P := fun a => ∀ σa, Off [7, 29, 30, 31] σ σa → (∀ x y, x < a → x < y → y < 6 → σa.1 29 0 (6 * x + y) = Wt A x y) → Ev none (d + 4) m_T_seat 2 [some (vR 7 0), some (vI (nI s)), some (vI (nI a)), none, none] [] σa post) ?_ ?_ σ Off.rf (fun x y h => absurd h (Nat.not_lt_zero _))
  · intro σa hoa hWa
    refine sg_T_seat_2 ⟨fun _ => ?_, fun q => absurd (Int32.le_refl _) q⟩
    refine upto (n := s) (P := fun k => ∀ σk, Off [7, 29, 30, 31] σ σk → cWt A σk → cTb A (k + 1) σk → Ev none (d + 4) m_T_seat 59 [some (vR 7 0), some (vI (nI s)), some (vI (nI (k + 1))), none, none] [] σk post) ?_ ?_ _ (Off.sI hoa (by decide)) (fun x y hxy hy => by rw [sk_k (by decide)]; exact hWa x y (by omega) hxy hy) (fun t ht _ _ => by rw [show t = 0 by omega, show (0 : Int32).toNatClampNeg = 0 from rfl, setI_at]; rfl)
    · intro σk hok hWk hTk
      refine sg_T_seat_59 ⟨fun _ => ⟨vpin hs (by decide), ?_⟩, fun q => absurd ((nI_ltI (by omega) (by omega)).mpr (Nat.lt_succ_self s)) q⟩
      rw [nI_ix (by omega), hTk s (by omega) hs he]
      -- who sits with whom
      refine upto (n := 6) (P := fun i => ∀ (σi : ST) (l : Nat), Off [7, 29, 30, 31] σ σi → cWt A σi → cTb A (s + 1) σi → σi.1 7 0 4 = LI A s → l ≤ s → pcn l % 2 = 0 → (∀ b, b < i → l.testBit b = false) → (∀ r, r < 6 → s.testBit r = true → (l.testBit r = true ∧ pf A (pcn s) s r = pf A (pcn l) l r) ∨ (l.testBit r = false ∧ σi.1 31 0 r = nI (pf A (pcn s) s r))) → Ev none (d + 4) m_T_seat 107 [some (vR 7 0), none, some (vI (nI l)), some (vI (nI i)), none] [] σi post) ?_ ?_ _ s (Off.sI hok (by decide)) (fun x y hxy hy => by rw [sk_k (by decide)]; exact hWk x y hxy hy) (fun t h1 h2 h3 => by rw [sk_k (by decide)]; exact hTk t h1 h2 h3) (by rw [setI_at]) (Nat.le_refl _) he (fun b hb => absurd hb (Nat.not_lt_zero _)) (fun r hr hb => Or.inl ⟨hb, rfl⟩)
      · intro σi l hoi _ _ e7 _ _ hz hp
        refine sg_T_seat_107 ⟨fun _ => K σi hoi ⟨e7, fun r hr hb => ?_⟩, fun q => absurd (Int32.le_refl _) q⟩
        rcases hp r hr hb with q | q
        · rw [hz r hr] at q
          cases q.1
        · exact q.2
      · intro i hi ih σi l hoi hWi hTi e7 hls hle hz hp
        have hl64 : l < 64 := by omega
        refine sg_T_seat_107 ⟨fun q => absurd ((nI_leI (a := 6) (by decide) (by omega)).mp q) (by omega), fun _ => ⟨fun q => ?_, fun q => ?_⟩⟩
        · have hb := (hldT hl64 hi).mp q
          have hl0 := ne0 hb
          have elo := lo_is l hl64 i hi hb hz
          have hTl : cTb A l σi := fun t h1 h2 h3 => hTi t (by omega) h2 h3
          refine c_lp (d := d + 1) hl64 hi ?_
          have ep : pkI (fun b => fn_T_waitWith σi (nI l) (nI i) (nI b)) l i (5 - i) = pt A l := by
            unfold pt
            rw [elo]
            refine pkI_cg _ (fun b h1 h2 h3 => ?_)
            rw [← elo]
            exact ww_S hWi hTl hl0 hl64 hle (by omega) (by omega) h3
          rw [ep]
          obtain ⟨p1, p2⟩ := pt_ok (A := A) hl0 hl64 hle
          have p3 := pt_lt A l
          obtain ⟨r1, r2⟩ := rst_i l hl64 i hi (pt A l) p3
          refine ⟨_, rfl, vpin hi (by decide), vpin p3 (by decide), ?_⟩
          unfold fn_T_without
          rw [r1, nI_1, nI_ix (by omega), nI_ix (by omega)]
          have hrl := (rst_a l hl64 i hi hb (pt A l) p3).1
          have hrc := rst_c l hl64 i hi (pt A l) p3
          have hr2 := rst_b l hl64 i hi hb (pt A l) p3 p2 (by omega)
          have hpf : ∀ r, pf A (pcn l) l r = if i = r then pt A l else if pt A l = r then i else pf A (pcn (rst l i (pt A l))) (rst l i (pt A l)) r := fun r => by
            rw [← hr2, pf_s, elo]
          refine ih _ (rst l i (pt A l)) (Off.sI (Off.sI hoi (by decide)) (by decide)) (fun x y hxy hy => by rw [sk_k (by decide), sk_k (by decide)]; exact hWi x y hxy hy) (fun t h1 h2 h3 => by rw [sk_k (by decide), sk_k (by decide)]; exact hTi t h1 h2 h3) (by rw [sk_k (by decide), sk_k (by decide)]; exact e7) (by omega) (by omega) (fun b hb1 => ?_) (fun r hr hrs => ?_)
          · by_cases g : (rst l i (pt A l)).testBit b = true
            · have := (hrc b (by omega)).mp g
              rw [hz b (by omega)] at this
              cases this.1
            · exact Bool.eq_false_iff.mpr g
          · rcases hp r hr hrs with g | g
            · by_cases er : r = i
              · subst er
                refine Or.inr ⟨?_, ?_⟩
                · exact Bool.eq_false_iff.mpr (fun w => ((hrc r hr).mp w).2.1 rfl)
                · rw [sk_f (by omega), setI_at, g.2, hpf, if_pos rfl]
              · by_cases ep2 : r = pt A l
                · refine Or.inr ⟨?_, ?_⟩
                  · exact Bool.eq_false_iff.mpr (fun w => ((hrc r hr).mp w).2.2 ep2)
                  · rw [ep2, setI_at, ← ep2, g.2, hpf, if_neg (fun w => er w.symm), if_pos ep2.symm]
                · refine Or.inl ⟨(hrc r hr).mpr ⟨g.1, er, ep2⟩, ?_⟩
                  rw [g.2, hpf, if_neg (fun w => er w.symm), if_neg (fun w => ep2 w.symm)]
            · refine Or.inr ⟨?_, ?_⟩
              · exact Bool.eq_false_iff.mpr (fun w => by have := ((hrc r hr).mp w).1; rw [g.1] at this; cases this)
              · have e1 : r ≠ i := fun w => by rw [w, hb] at g; cases g.1
                have e2 : r ≠ pt A l := fun w => by rw [w, p2] at g; cases g.1
                rw [sk_f e2, sk_f e1]
                exact g.2
        · rw [nI_1]
          refine ih σi l hoi hWi hTi e7 hls hle (fun b hb => ?_) hp
          by_cases e : b = i
          · rw [e]
            exact Bool.eq_false_iff.mpr (fun w => q ((hldT hl64 hi).mpr w))
          · exact hz b (by omega)
    · intro k hk ih σk hok hWk hTk
      have hk64 : k + 1 < 64 := by omega
      have hl := lo_lt (k + 1)
      refine sg_T_seat_59 ⟨fun q => absurd ((nI_ltI (by omega) (by omega)).mp q) (by omega), fun _ => ?_⟩
      refine c_lo (d := d + 2) (by omega) hk64 ⟨_, rfl, c_lp (d := d + 1) hk64 hl ⟨_, rfl, ?_⟩⟩
      have hp : pkI (fun b => fn_T_waitWith σk (nI (k + 1)) (nI (lo (k + 1))) (nI b)) (k + 1) (lo (k + 1)) (5 - lo (k + 1)) < 6 := by
        rcases pkI_rg (fun b => fn_T_waitWith σk (nI (k + 1)) (nI (lo (k + 1))) (nI b)) (k + 1) (lo (k + 1)) (5 - lo (k + 1)) with q | q <;> omega
      refine ⟨(ww_c hk64 hl hp).1, vpin hk64 (by decide), ?_⟩
      rw [nI_1, nI_ix (show k + 1 < 2 ^ 31 by omega)]
      refine ih _ (Off.sI hok (by decide)) (fun x y hxy hy => by rw [sk_k (by decide)]; exact hWk x y hxy hy) (fun t h1 h2 h3 => ?_)
      by_cases e : t = k + 1
      · subst e
        rw [setI_at]
        have ep : pkI (fun b => fn_T_waitWith σk (nI (k + 1)) (nI (lo (k + 1))) (nI b)) (k + 1) (lo (k + 1)) (5 - lo (k + 1)) = pt A (k + 1) := pkI_cg _ (fun b g1 g2 g3 => ww_S hWk hTk (by omega) hk64 h3 (by omega) g1 g3)
        rw [ep]
        obtain ⟨p1, p2⟩ := pt_ok (A := A) (by omega) hk64 h3
        rw [ww_S hWk hTk (by omega) hk64 h3 (pt_lt A _) p1 p2, LI_eq (by omega) hk64]
      · rw [sk_f e]
        exact hTk t (by omega) h2 h3
  · intro a ha ih σa hoa hWa
    refine sg_T_seat_2 ⟨fun q => absurd ((nI_leI (a := 6) (by decide) (by omega)).mp q) (by omega), fun _ => ?_⟩
    rw [nI_1]
    refine upto (n := 5 - a) (P := fun n => ∀ σn, Off [7, 29, 30, 31] σ σn → (∀ x y, x < y → y < 6 → (x < a ∨ (x = a ∧ y < a + 1 + n)) → σn.1 29 0 (6 * x + y) = Wt A x y) → Ev none (d + 4) m_T_seat 12 [some (vR 7 0), some (vI (nI s)), some (vI (nI a)), some (vI (nI (a + 1 + n))), none] [] σn post) ?_ ?_ σa hoa (fun x y h1 h2 h3 => hWa x y (by omega) h1 h2)
    · intro σn hon hWn
      refine sg_T_seat_12 ⟨fun _ => ?_, fun q => absurd ((nI_leI (a := 6) (by decide) (by omega)).mpr (by omega)) q⟩
      rw [nI_1]
      exact ih σn hon (fun x y h1 h2 h3 => hWn x y h2 h3 (by omega))
    · intro n hn ihn σn hon hWn
      refine sg_T_seat_12 ⟨fun q => absurd ((nI_leI (a := 6) (by decide) (by omega)).mp q) (by omega), fun _ => ?_⟩
      refine c_wt hw (h.off hon) ha (by omega) ⟨_, rfl, ?_⟩
      rw [ix6, nI_ix (by omega), nI_1]
      refine ⟨vpin (by omega) (by decide), ihn _ (Off.sI hon (by decide)) (fun x y h1 h2 h3 => ?_)⟩
      rw [setI_if]
      by_cases e : 6 * x + y = 6 * a + (a + 1 + n)
      · rw [if_pos ⟨rfl, e⟩]
        have ex : x = a := by omega
        have ey : y = a + 1 + n := by omega
        rw [ex, ey]
      · rw [if_neg (fun q => e q.2)]
        exact hWn x y h1 h2 (by omega)
-- the reference's table
def mTb (A : ST) (k : Nat) (σ : ST) : Prop := ∀ t, t < k → pcn t % 2 = 0 → σ.1 58 0 t = LI A t ∧ (t ≠ 0 → σ.1 59 0 t = nI (pt A t))
theorem m_fp {A σ : ST} {d : Nat} (hw : Wf A) (h : RepM A σ) (hp : Psd A σ) {post : Option AV → ST → Prop} (K : ∀ σ', OffM [58, 59] [] σ σ' → mTb A 64 σ' → post none σ') : Ev none (d + 4) m_M_findPairs 0 [some (vR 11 0), none, none, none, none, none] [] σ post := by
  refine sg_M_findPairs_0 ?_
  refine upto (n := 64) (P := fun s => ∀ σs, OffM [58, 59] [] σ σs → mTb A s σs → Ev none (d + 4) m_M_findPairs 2 [some (vR 11 0), some (vI (nI s)), none, none, none, none] [] σs post) ?_ ?_ σ OffM.rf (fun t ht => absurd ht (Nat.not_lt_zero _))
  · intro σs hos hT
    exact sg_M_findPairs_2 ⟨fun _ => K σs hos hT, fun q => absurd (Int32.le_refl _) q⟩
  · intro s hs ih σs hos hT
    have hvs := vpin hs (by decide)
    refine sg_M_findPairs_2 ⟨fun q => absurd ((nI_leI (a := 64) (by decide) (by omega)).mp q) (by omega), fun _ z hz => ⟨hvs, hvs, fun q => ?_, fun q => ?_⟩⟩
    · have e0 : s = 0 := by
        have := (nI_leI (a := s) (b := 0) (by omega) (by decide)).mp q
        omega
      subst e0
      rw [show nI 0 + 1 = nI (0 + 1) from nI_1 0, show (nI 0).toNatClampNeg = 0 from rfl]
      refine ih _ (OffM.sI (OffM.sI hos (by decide) (by decide)) (by decide) (by decide)) (fun t ht he => ?_)
      have et : t = 0 := by omega
      subst et
      rw [sk_k (show (58 : Nat) ≠ 59 by decide), setI_at, hz, if_pos (show nI 0 = 0 from rfl)]
      exact ⟨rfl, fun w => absurd rfl w⟩
    · have h0 : s ≠ 0 := fun w => q (by rw [w]; decide)
      rw [if_neg (nI_ne0 (by omega) (by omega))] at hz
      rw [nI_ix (show s < 2 ^ 31 by omega)]
      generalize hσ1 : setI (setI σs 58 0 s z) 59 0 s (-1) = σ1
      have o1 : OffM [58, 59] [] σ σ1 := by rw [← hσ1]; exact OffM.sI (OffM.sI hos (by decide) (by decide)) (by decide) (by decide)
      have e58 : σ1.1 58 0 s = 1000000 := by rw [← hσ1, sk_k (show (58 : Nat) ≠ 59 by decide), setI_at, hz]
      have e59 : σ1.1 59 0 s = -1 := by rw [← hσ1, setI_at]
      have hT1 : mTb A s σ1 := fun t ht he => by
        rw [← hσ1, sk_k (show (58 : Nat) ≠ 59 by decide), sk_f (by omega), sk_f (by omega), sk_k (show (59 : Nat) ≠ 58 by decide)]
        exact hT t ht he
      refine m_ones (by omega) ⟨_, rfl, ?_⟩
      have hp8 := pcn_6 s hs
      rw [show irm (nI (pcn s)) 2 = nI (pcn s % 2) from pk_rem (by omega) (by decide) (by decide)]
      refine ⟨fun g => ?_, fun g => ?_⟩
      · have he : pcn s % 2 = 0 := (nI_is (b := 0) (by omega) (by decide)).mp g
        refine m_lo (d := d + 2) h0 hs ⟨_, rfl, ?_⟩
        have hl := lo_lt s
        obtain ⟨l1, l2⟩ := lo_ok s hs h0
        rw [nI_1]
        refine upto (n := 5 - lo s) (P := fun n => ∀ σn, OffM [58, 59] [] σ σn → mTb A s σn → σn.1 58 0 s = (if pkI (wwS A s) s (lo s) n = lo s then 1000000 else wwS A s (pkI (wwS A s) s (lo s) n)) → σn.1 59 0 s = (if pkI (wwS A s) s (lo s) n = lo s then -1 else nI (pkI (wwS A s) s (lo s) n)) → Ev none (d + 4) m_M_findPairs 53 [some (vR 11 0), some (vI (nI s)), some (vI (nI (lo s))), some (vI (nI (lo s + 1 + n))), none, none] [] σn post) ?_ ?_ σ1 o1 hT1 (by rw [e58]; exact (if_pos rfl).symm) (by rw [e59]; exact (if_pos rfl).symm)
        · intro σn hon hTn f58 f59
          refine sg_M_findPairs_53 ⟨fun _ => ?_, fun q => absurd ((nI_leI (a := 6) (by decide) (by omega)).mpr (by omega)) q⟩
          rw [nI_1]
          refine ih σn hon (fun t ht het => ?_)
          by_cases e : t = s
          · subst e
            obtain ⟨p1, p2⟩ := pt_ok (A := A) h0 hs he
            have pne : ¬ pkI (wwS A t) t (lo t) (5 - lo t) = lo t := by
              show ¬ pt A t = lo t
              omega
            rw [f58, f59, if_neg pne, if_neg pne]
            exact ⟨(LI_eq h0 hs).symm, fun _ => rfl⟩
          · exact hTn t (by omega) het
        · intro n hn ihn σn hon hTn f58 f59
          have hb6 : lo s + 1 + n < 6 := by omega
          obtain ⟨r1, r2⟩ := rst_i s hs (lo s) hl (lo s + 1 + n) hb6
          have hpk : pkI (wwS A s) s (lo s) n < 6 := by
            rcases pkI_rg (wwS A s) s (lo s) n with q | q <;> omega
          refine sg_M_findPairs_53 ⟨fun q => absurd ((nI_leI (a := 6) (by decide) (by omega)).mp q) (by omega), fun _ => ⟨fun q => ?_, fun q => ?_⟩⟩
          · have hbit := (hldT hs hb6).mp q
            refine m_apart hw (h.off hon) (hp.off hon) hl hb6 ⟨_, rfl, ?_⟩
            have hrl := (rst_a s hs _ hl l1 _ hb6).1
            have hre := rst_even hs hl hb6 l1 hbit (by omega) he
            have hx := (hTn _ hrl hre).1
            rw [r1, nI_ix (show rst s (lo s) (lo s + 1 + n) < 2 ^ 31 by omega), hx, nI_ix (show s < 2 ^ 31 by omega), nI_1]
            refine ⟨vpin (by omega) (by decide), hvs, ⟨fun _ => hvs, fun _ => trivial⟩, fun z18 hz18 => ⟨hvs, hvs, ⟨fun _ => hvs, fun _ => trivial⟩, fun z22 hz22 => ⟨hvs, ?_⟩⟩⟩
            rw [sk_k (show (58 : Nat) ≠ 59 by decide)] at hz22
            obtain ⟨tb, tb1, tb2⟩ := wwS_ix hw h0 hs hb6
            have tb2' : Wt A (lo s) (lo s + 1 + n) + LI A (rst s (lo s) (lo s + 1 + n)) = nI tb := tb2
            rw [tb2', f58] at hz18 hz22
            rw [f59] at hz18
            refine ihn _ (OffM.sI (OffM.sI hon (by decide) (by decide)) (by decide) (by decide)) (fun t ht het => ?_) ?_ ?_
            · rw [sk_f (by omega), sk_k (show (58 : Nat) ≠ 59 by decide), sk_k (show (59 : Nat) ≠ 58 by decide), sk_f (by omega)]
              exact hTn t ht het
            · rw [setI_at, hz22]
              by_cases g1 : pkI (wwS A s) s (lo s) n = lo s
              · have e1 : pkI (wwS A s) s (lo s) (n + 1) = lo s + 1 + n := by rw [pkI_s, if_pos hbit, if_pos g1]
                rw [e1, if_pos g1, if_neg (show ¬ lo s + 1 + n = lo s by omega), tb2, if_neg]
                intro w
                have := (nI_leI (a := 1000000) (by decide) (by omega)).mp w
                omega
              · rw [if_neg g1]
                by_cases g2 : wwS A s (pkI (wwS A s) s (lo s) n) ≤ nI tb
                · have e1 : pkI (wwS A s) s (lo s) (n + 1) = pkI (wwS A s) s (lo s) n := by rw [pkI_s, if_pos hbit, if_neg g1, tb2, if_pos g2]
                  rw [e1, if_pos g2, if_neg g1]
                · have e1 : pkI (wwS A s) s (lo s) (n + 1) = lo s + 1 + n := by rw [pkI_s, if_pos hbit, if_neg g1, tb2, if_neg g2]
                  rw [e1, if_neg g2, if_neg (show ¬ lo s + 1 + n = lo s by omega), tb2]
            · rw [sk_k (show (59 : Nat) ≠ 58 by decide), setI_at, hz18]
              by_cases g1 : pkI (wwS A s) s (lo s) n = lo s
              · have e1 : pkI (wwS A s) s (lo s) (n + 1) = lo s + 1 + n := by rw [pkI_s, if_pos hbit, if_pos g1]
                rw [e1, if_pos g1, if_pos g1, if_neg (show ¬ lo s + 1 + n = lo s by omega), if_neg]
                intro w
                have := (nI_leI (a := 1000000) (by decide) (by omega)).mp w
                omega
              · rw [if_neg g1, if_neg g1]
                by_cases g2 : wwS A s (pkI (wwS A s) s (lo s) n) ≤ nI tb
                · have e1 : pkI (wwS A s) s (lo s) (n + 1) = pkI (wwS A s) s (lo s) n := by rw [pkI_s, if_pos hbit, if_neg g1, tb2, if_pos g2]
                  rw [e1, if_pos g2, if_neg g1]
                · have e1 : pkI (wwS A s) s (lo s) (n + 1) = lo s + 1 + n := by rw [pkI_s, if_pos hbit, if_neg g1, tb2, if_neg g2]
                  rw [e1, if_neg g2, if_neg (show ¬ lo s + 1 + n = lo s by omega)]
          · have hbit : ¬ s.testBit (lo s + 1 + n) = true := fun w => q ((hldT hs hb6).mpr w)
            rw [nI_ix (show s < 2 ^ 31 by omega), nI_1]
            have hle : σn.1 58 0 s ≤ 1000000 := by
              rw [f58]
              split
              · decide
              · obtain ⟨tb, tb1, tb2⟩ := wwS_ix hw h0 hs hpk
                rw [tb2]
                exact (nI_leI (b := 1000000) (by omega) (by decide)).mpr (by omega)
            refine ⟨hvs, ⟨fun _ => hvs, fun _ => trivial⟩, fun z5 hz5 => ⟨hvs, hvs, ⟨fun _ => hvs, fun _ => trivial⟩, fun z9 hz9 => ⟨hvs, ?_⟩⟩⟩
            rw [if_pos hle] at hz5
            rw [sk_k (show (58 : Nat) ≠ 59 by decide), if_pos hle] at hz9
            refine ihn _ (OffM.sI (OffM.sI hon (by decide) (by decide)) (by decide) (by decide)) (fun t ht het => ?_) ?_ ?_
            · rw [sk_f (by omega), sk_k (show (58 : Nat) ≠ 59 by decide), sk_k (show (59 : Nat) ≠ 58 by decide), sk_f (by omega)]
              exact hTn t ht het
            · rw [setI_at, hz9, pkI_s, if_neg hbit]
              exact f58
            · rw [sk_k (show (59 : Nat) ≠ 58 by decide), setI_at, hz5, pkI_s, if_neg hbit]
              exact f59
      · have ho : ¬ pcn s % 2 = 0 := fun w => g (by rw [w]; rfl)
        rw [nI_1]
        refine ih σ1 o1 (fun t ht het => ?_)
        by_cases e : t = s
        · subst e; exact absurd het ho
        · exact hT1 t (by omega) het
theorem m_walk {A σ : ST} {d r : Nat} (hT : mTb A 64 σ) (hr : r < 6) {post : Option AV → ST → Prop} : ∀ f s, s < 64 → pcn s = f → f % 2 = 0 → s.testBit r = true → post (some (vI (nI (pf A f s r)))) σ → Ev none (d + 5) m_M_pairsOf 18 [some (vR 11 0), none, some (vI (nI r)), some (vI (nI s)), none, none] [] σ post
  | 0, s, hs, hf, _, hb, _ => absurd (pcn_0 s hs hf) (ne0 hb)
  | 1, s, hs, hf, h2, hb, _ => by omega
  | f + 2, s, hs, hf, h2, hb, K => by
    have h0 := ne0 hb
    have he : pcn s % 2 = 0 := by omega
    have hl := lo_lt s
    have hp := pt_lt A s
    obtain ⟨l1, _⟩ := lo_ok s hs h0
    obtain ⟨p1, p2⟩ := pt_ok (A := A) h0 hs he
    have e59 := (hT s hs he).2 h0
    rw [pf_s] at K
    refine sg_M_pairsOf_18 (m_lo (d := d + 3) h0 hs ⟨_, rfl, vpin hs (by decide), ?_⟩)
    rw [nI_ix (show s < 2 ^ 31 by omega), e59, nI_eq (show lo s < 2 ^ 31 by omega) (show r < 2 ^ 31 by omega), nI_eq (show pt A s < 2 ^ 31 by omega) (show r < 2 ^ 31 by omega)]
    obtain ⟨r1, r2⟩ := rst_i s hs (lo s) hl (pt A s) hp
    rw [r1]
    refine ⟨fun q => ⟨fun _ => ?_, fun g => absurd q g⟩, fun q => ⟨fun g => ⟨fun w => absurd w q, fun _ => ?_⟩, fun g => ?_⟩⟩
    · rw [if_pos q] at K; exact K
    · rw [if_neg q, if_pos g] at K; exact K
    · rw [if_neg q, if_neg g] at K
      have hr2 := rst_b s hs (lo s) hl l1 (pt A s) hp p2 (by omega)
      exact m_walk hT hr f _ r2 (by omega) (by omega) ((rst_c s hs (lo s) hl (pt A s) hp r hr).mpr ⟨hb, fun w => q w.symm, fun w => g w.symm⟩) K
def prv (A : ST) (s : Nat) (a2 : Int32) : Int32 := if a2 = -1 then LI A s else nI (pf A (pcn s) s a2.toNatClampNeg)
theorem m_prs {A σ : ST} {d s : Nat} {a2 : Int32} (hw : Wf A) (h : RepM A σ) (hp : Psd A σ) (hs : s < 64) (he : pcn s % 2 = 0) (h2 : a2 = -1 ∨ (rg a2 0 5 ∧ s.testBit a2.toNatClampNeg = true)) {post : Option AV → ST → Prop} (K : ∀ σ', OffM [58, 59] [] σ σ' → post (some (vI (prv A s a2))) σ') : Ev none (d + 5) m_M_pairsOf 0 [some (vR 11 0), some (vI (nI s)), some (vI a2), none, none, none] [] σ post := by
  refine sg_M_pairsOf_0 (m_fp hw h hp (fun σ' ho hT => ⟨rfl, fun q => ⟨vpin hs (by decide), ?_⟩, fun q => ?_⟩))
  · have K' := K σ' ho
    unfold prv at K'
    rw [if_pos q] at K'
    rw [nI_ix (by omega), (hT s hs he).1]
    exact K'
  · have K' := K σ' ho
    unfold prv at K'
    rw [if_neg q] at K'
    obtain ⟨g1, g2⟩ := h2.resolve_left q
    obtain ⟨r, hr, rfl⟩ := rg_nI (n := 5) g1
    rw [nI_ix (by omega)] at K' g2
    exact m_walk hT (by omega) (pcn s) s hs rfl he g2 K'
abbrev g_prs (a1 a2 : Int32) : Prop := rg a1 1 63 ∧ (a2 = -1 ∨ (rg a2 0 5 ∧ hld a1 a2.toNatClampNeg))
def an_prs (A : ST) (a1 a2 : Int32) : Int32 := if g_prs a1 a2 then (if pcn a1.toNatClampNeg % 2 = 0 then prv A a1.toNatClampNeg a2 else -3) else -2
theorem set_ix {a : Int32} (h : rg a 1 63) : ∃ s : Nat, s ≠ 0 ∧ s < 64 ∧ a = nI s := by
  obtain ⟨s, hs, rfl⟩ := rg_nI (n := 63) (a := a) ⟨by have := h.1; omega, h.2⟩
  have := h.1
  rw [nI_toInt (by omega)] at this
  exact ⟨s, by omega, by omega, rfl⟩
theorem cs_prs {A : ST} {a1 a2 : Int32} {d : Nat} (hw : Wf A) : CS m_O_pairs [some (vR 0 0), some (vI a1), some (vI a2)] (d + 5) A A (vI (an_prs A a1 a2)) := by
  intro σ post h K
  unfold an_prs at K
  by_cases hg : g_prs a1 a2
  · rw [if_pos hg] at K
    obtain ⟨s, h0, hs, rfl⟩ := set_ix hg.1
    rw [nI_ix (by omega)] at K
    have hp8 := pcn_6 s hs
    have main : ((irm (fn_J_bitCount σ (nI s)) 2 = 0 → Ev none (d + 4) m_T_seat 0 [some (vR 7 0), some (vI (nI s)), none, none, none] [] σ (fun r s4 => r = none ∧ ((a2 = -1 → post (some (vI (fn_T_minutes s4))) s4) ∧ (¬ a2 = -1 → fs_T_partnerOf s4 a2 ∧ post (some (vI (fn_T_partnerOf s4 a2))) s4)))) ∧ (¬ irm (fn_J_bitCount σ (nI s)) 2 = 0 → post (some (vI (-3))) σ)) := by
      rw [c_bits s hs, show irm (nI (pcn s)) 2 = nI (pcn s % 2) from pk_rem (by omega) (by decide) (by decide)]
      refine ⟨fun q => ?_, fun q => ?_⟩
      · have he : pcn s % 2 = 0 := (nI_is (b := 0) (by omega) (by decide)).mp q
        rw [if_pos he] at K
        refine c_seat hw h h0 hs he (fun σ' ho hP => ⟨rfl, fun g => ?_, fun g => ?_⟩)
        · have K' := K σ' (h.off ho) (AgM.off ho)
          unfold prv at K'
          rw [if_pos g] at K'
          unfold fn_T_minutes
          rw [hP.1]
          exact K'
        · have K' := K σ' (h.off ho) (AgM.off ho)
          unfold prv at K'
          rw [if_neg g] at K'
          obtain ⟨g1, g2⟩ := hg.2.resolve_left g
          obtain ⟨r, hr, rfl⟩ := rg_nI (n := 5) g1
          rw [nI_ix (by omega)] at K' g2
          unfold fs_T_partnerOf fn_T_partnerOf
          rw [nI_ix (by omega), hP.2 r (by omega) ((hldT hs (by omega)).mp g2)]
          exact ⟨vpin (by omega) (by decide), K'⟩
      · have he : ¬ pcn s % 2 = 0 := fun w => q (by rw [w]; rfl)
        rw [if_neg he] at K
        exact K σ h (AgM.off (S := []) Off.rf)
    refine sg_O_pairs_0 ⟨fun _ => ⟨fun _ => main, fun g => ⟨fun _ => main, fun g2 => ?_⟩⟩, fun g => absurd ((wi 1 63).mpr hg.1) g⟩
    obtain ⟨z1, z2⟩ := hg.2.resolve_left g
    exact absurd ⟨(wi 0 5).mpr z1, (hld_a (r := 5) z1 (by decide)).mp z2⟩ g2
  · rw [if_neg hg] at K
    have K' := K σ h (AgM.off (S := []) Off.rf)
    refine sg_O_pairs_0 ⟨fun g1 => ⟨fun g2 => absurd ⟨(wi 1 63).mp g1, Or.inl g2⟩ hg, fun g2 => ⟨fun g3 => ?_, fun _ => K'⟩⟩, fun _ => K'⟩
    have z1 := (wi 0 5).mp g3.1
    exact absurd ⟨(wi 1 63).mp g1, Or.inr ⟨z1, (hld_a (r := 5) z1 (by decide)).mpr g3.2⟩⟩ hg
theorem ms_prs {A : ST} {a1 a2 : Int32} {d : Nat} (hw : Wf A) : MSp m_M_pairs [some (vR 11 0), some (vI a1), some (vI a2)] (d + 6) A A (vI (an_prs A a1 a2)) := by
  intro σ post h K
  unfold an_prs at K
  refine sg_M_pairs_0 (m_reads hw h (fun σ1 h1 h2 h3 => ⟨_, rfl, fun q => ?_, fun q => ?_⟩))
  · obtain ⟨q1, q2⟩ := q
    have hg : g_prs a1 a2 := by
      refine ⟨(mi 1 63).mp q1, ?_⟩
      rcases q2 with q2 | q2
      · exact Or.inl q2
      · have z1 := (mi 0 5).mp q2.1
        exact Or.inr ⟨z1, (hld_a (r := 5) z1 (by decide)).mpr q2.2⟩
    rw [if_pos hg] at K
    obtain ⟨s, h0, hs, rfl⟩ := set_ix hg.1
    rw [nI_ix (by omega)] at K
    have hp8 := pcn_6 s hs
    refine m_ones (by omega) ⟨_, rfl, ?_⟩
    rw [show irm (nI (pcn s)) 2 = nI (pcn s % 2) from pk_rem (by omega) (by decide) (by decide)]
    have e1 : nI (pcn s % 2) = 1 ↔ pcn s % 2 = 1 := nI_is (b := 1) (by omega) (by decide)
    rw [e1]
    refine ⟨fun g => ?_, fun g => ?_⟩
    · rw [if_neg (by omega)] at K
      exact K σ1 h1 (AgC.off h3)
    · rw [if_pos (by omega)] at K
      refine m_prs hw h1 h2 hs (by omega) ?_ (fun σ' ho => ⟨_, rfl, K σ' (h1.off ho) (AgC.tr (AgC.off h3) (AgC.off ho))⟩)
      rcases hg.2 with w | w
      · exact Or.inl w
      · have : a2.toNatClampNeg < 6 := by
          obtain ⟨r, hr, rfl⟩ := rg_nI (n := 5) w.1
          rw [nI_ix (by omega)]
          omega
        exact Or.inr ⟨w.1, (hldT hs this).mp w.2⟩
  · rw [if_neg] at K
    · exact K σ1 h1 (AgC.off h3)
    · rintro ⟨z1, z2⟩
      apply q
      refine ⟨(mi 1 63).mpr z1, ?_⟩
      rcases z2 with z2 | z2
      · exact Or.inl z2
      · exact Or.inr ⟨(mi 0 5).mpr z2.1, (hld_a (r := 5) z2.1 (by decide)).mp z2.2⟩
