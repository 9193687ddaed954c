-- counting
def pcK (m : Nat) : Nat → Nat
  | 0 => 0
  | k + 1 => pcK m k + (if m.testBit k then 1 else 0)
abbrev pcn (m : Nat) : Nat := pcK m 8
theorem pcn_step : ∀ m, m < 256 → m ≠ 0 → pcn (m &&& (m - 1)) + 1 = pcn m ∧ (m &&& (m - 1)) < m ∧ nI m &&& (nI m - 1) = nI (m &&& (m - 1)) := by decide +kernel
theorem pcn_le : ∀ m, m < 256 → pcn m ≤ 8 := by decide +kernel
theorem m_ones_loop {d : Nat} {σ : ST} {post : Option AV → ST → Prop} : ∀ (f m k : Nat), m < f → m < 256 → post (some (vI (nI (k + pcn m)))) σ → Ev none d m_M_ones 4 [none, some (vI (nI k)), some (vI (nI m))] [] σ post
  | 0, m, k, h, _, _ => absurd h (by omega)
  | f + 1, m, k, h, h2, K => by
    refine sg_M_ones_4 ⟨fun q => ?_, fun q => ?_⟩
    · have : m = 0 := (nI_is (b := 0) (by omega) (by decide)).mp q
      subst this
      exact K
    · have hm : m ≠ 0 := fun z => q (by rw [z]; rfl)
      obtain ⟨p1, p2, p3⟩ := pcn_step m h2 hm
      rw [p3, nI_1]
      refine m_ones_loop f _ (k + 1) (by omega) (by omega) ?_
      rw [show k + 1 + pcn (m &&& (m - 1)) = k + pcn m by omega]
      exact K
theorem m_ones {d m : Nat} {σ : ST} {post : Option AV → ST → Prop} (hm : m < 256) (K : post (some (vI (nI (pcn m)))) σ) : Ev none d m_M_ones 0 [some (vI (nI m)), none, none] [] σ post := by
  refine sg_M_ones_0 (m_ones_loop 256 m 0 hm hm ?_)
  rw [Nat.zero_add]
  exact K
theorem c_bits {σ : ST} : ∀ m, m < 64 → fn_J_bitCount σ (nI m) = nI (pcn m) := by
  have h : ∀ m, m < 64 → fn_J_bitCount (fun _ _ _ => 0, fun _ _ _ => 0) (nI m) = nI (pcn m) := by decide +kernel
  exact h
def cntB (f : Nat → Int32) : Nat → Nat
  | 0 => 0
  | k + 1 => cntB f k + (if f k = 1 then 1 else 0)
theorem cntB_le (f : Nat → Int32) : ∀ k, cntB f k ≤ k
  | 0 => Nat.le_refl _
  | k + 1 => by
    have := cntB_le f k
    unfold cntB
    split <;> omega
theorem pcK_bt8 (f : Nat → Int32) (n : Nat) : ∀ k, pcK (bt8 f n) k = cntB f (min k n)
  | 0 => by simp [pcK, cntB]
  | k + 1 => by
    have ih := pcK_bt8 f n k
    have hb := bt8_bit f n k
    unfold pcK
    rw [ih]
    by_cases hk : k < n
    · rw [show min (k + 1) n = min k n + 1 by omega, show min k n = k by omega]
      unfold cntB
      by_cases h1 : f k = 1
      · rw [if_pos (hb.mpr ⟨hk, h1⟩), if_pos h1]
        rfl
      · rw [if_neg (fun q => h1 (hb.mp q).2), if_neg h1]
        rfl
    · rw [if_neg (fun q => hk (hb.mp q).1), show min (k + 1) n = min k n by omega]
theorem bt8_mod (f : Nat → Int32) {n : Nat} : ∀ j, bt8 f (n + j) % 2 ^ n = bt8 f n
  | 0 => Nat.mod_eq_of_lt (bt8_lt f n)
  | j + 1 => by
    have ih := bt8_mod f (n := n) j
    show (bt8 f (n + j) + (if f (n + j) = 1 then 2 ^ (n + j) else 0)) % 2 ^ n = _
    split
    · rw [Nat.pow_add, Nat.add_mul_mod_self_left]
      exact ih
    · exact ih
theorem mask_i : ∀ n, n ≤ 8 → (isl 1 (nI n)) - 1 = nI (2 ^ n - 1) := by decide +kernel
theorem mask_and {f : Nat → Int32} {n : Nat} (hn : n ≤ 8) : nI (bt8 f 8) &&& ((isl 1 (nI n)) - 1) = nI (bt8 f n) := by
  have hlt := bt8_256 f
  have hp : 2 ^ n ≤ 256 := Nat.pow_le_pow_right (n := 2) (m := 8) (by decide) hn
  have hp1 : 0 < 2 ^ n := Nat.pow_pos (by decide)
  rw [mask_i n hn, pk_andN (by omega) n (pk_tn (by omega))]
  have := bt8_mod f (n := n) (8 - n)
  rw [show n + (8 - n) = 8 by omega] at this
  rw [this]
theorem pcn_bt8 {f : Nat → Int32} {n : Nat} (hn : n ≤ 8) : pcn (bt8 f n) = cntB f n := by
  show pcK (bt8 f n) 8 = _
  rw [pcK_bt8, show min 8 n = n by omega]
def sumI (f : Nat → Int32) : Nat → Int32
  | 0 => 0
  | k + 1 => sumI f k + f k
def lkN (A : ST) : Nat → Nat
  | 0 => 0
  | r + 1 => lkN A r + cntB (A.1 3 r) (nC A)
def an_count (A : ST) (a : Int32) : Int32 := if a = 0 then nI (nC A) else if a = 1 then A.1 0 0 0 else if a = 2 then sumI (lC A) (nC A) else if a = 3 then nI (cntB (A.1 4 0) (nC A)) else if a = 4 then nI (lkN A 6) else if a = 5 then A.1 7 0 0 else if a = 6 then A.1 6 0 0 else if a = 7 then A.1 6 0 1 else if a = 8 then A.1 11 0 0 else -2
theorem c_lines {A σ : ST} {d : Nat} (hw : Wf A) (h : RepC A σ) {post : Option AV → ST → Prop} (K : post (some (vI (sumI (lC A) (nC A)))) σ) : Ev none d m_B_allLines 0 [some (vR 1 0), none, none] [] σ post := by
  have h8 := nC_le hw
  refine sg_B_allLines_0 ?_
  have key : ∀ (m c : Nat), c + m = nC A → Ev none d m_B_allLines 4 [some (vR 1 0), some (vI (sumI (lC A) c)), some (vI (nI c))] [] σ post := by
    intro m
    induction m with
    | zero =>
      intro c hc
      have e : c = nC A := by omega
      subst e
      refine sg_B_allLines_4 ⟨fun _ => K, fun q => ?_⟩
      rw [h.1.2.1] at q
      exact absurd (Int32.le_refl _) q
    | succ m ih =>
      intro c hc
      refine sg_B_allLines_4 ⟨fun q => ?_, fun _ => ⟨vpin (by omega) (by decide), ?_⟩⟩
      · rw [h.1.2.1] at q
        exact absurd ((nI_leI (by omega) (by omega)).mp q) (by omega)
      · rw [nI_ix (by omega), (h.1.2.2.2 c (by omega)).2, nI_1]
        exact ih (c + 1) (by omega)
  exact key (nC A) 0 (by omega)
theorem c_skips {A σ : ST} {d : Nat} (hw : Wf A) (h : RepC A σ) {post : Option AV → ST → Prop} (K : post (some (vI (nI (cntB (A.1 4 0) (nC A))))) σ) : Ev none (d + 2) m_C_countSkipped 0 [some (vR 2 0), none, none] [] σ post := by
  have h8 := nC_le hw
  have e4 : fn_C_chapters σ = nI (nC A) := by
    unfold fn_C_chapters fn_B_chapters
    exact h.1.2.1
  refine sg_C_countSkipped_0 ?_
  have key : ∀ (m c : Nat), c + m = nC A → Ev none (d + 2) m_C_countSkipped 4 [some (vR 2 0), some (vI (nI (cntB (A.1 4 0) c))), some (vI (nI c))] [] σ post := by
    intro m
    induction m with
    | zero =>
      intro c hc
      have e : c = nC A := by omega
      subst e
      refine sg_C_countSkipped_4 ⟨fun _ => K, fun q => ?_⟩
      rw [e4] at q
      exact absurd (Int32.le_refl _) q
    | succ m ih =>
      intro c hc
      refine sg_C_countSkipped_4 ⟨fun q => ?_, fun _ => ⟨vpin (by omega) (by decide), ?_⟩⟩
      · rw [e4] at q
        exact absurd ((nI_leI (by omega) (by omega)).mp q) (by omega)
      · intro z hz
        rw [nI_ix (by omega), h.2.2.2.1 c (by omega)] at hz
        have hz' : nI (cntB (A.1 4 0) c) + z = nI (cntB (A.1 4 0) (c + 1)) := by
          unfold cntB
          rcases hw.2.2.2.1 c (by omega) with q | q
          · rw [hz, q, if_neg (by decide)]
            exact (nI_add _ 0).symm ▸ rfl
          · rw [hz, q, if_pos rfl]
            exact nI_1 _
        rw [hz', nI_1]
        exact ih (c + 1) (by omega)
  exact key (nC A) 0 (by omega)
